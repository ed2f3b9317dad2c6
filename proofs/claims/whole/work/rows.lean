section
-- ===== PART A: goes FIRST, ahead of the names: the tables' words, and 'selects' of the private methods out of them =====
/-- a private method of a class that the tables say can be made, by its rows of tables_1 -/
def lw_okq (q : MethodName × Nat) : Prop := (q.1.cls ≠ "java/lang/invoke/MethodHandle" ∧ q.1.cls ≠ "java/lang/invoke/VarHandle") ∧ Cond.instantiable q.1.cls q.2 ∈ tables_1 ∧ Cond.privateMethod q.1 ∈ tables_1 ∧ Cond.instanceMethod q.1 ∈ tables_1
theorem lw_p0 : lw_okq (⟨"RepairShop$Shop", "meetingTime", "()I"⟩, 15) := ⟨⟨by decide +kernel, by decide +kernel⟩, List.mem_of_getElem? (i := 30) (by decide +kernel), List.mem_of_getElem? (i := 194) (by decide +kernel), List.mem_of_getElem? (i := 195) (by decide +kernel)⟩
theorem lw_p1 : lw_okq (⟨"RepairShop$Planner", "latenessOfNew", "(I)I"⟩, 4) := ⟨⟨by decide +kernel, by decide +kernel⟩, List.mem_of_getElem? (i := 24) (by decide +kernel), List.mem_of_getElem? (i := 208) (by decide +kernel), List.mem_of_getElem? (i := 209) (by decide +kernel)⟩
theorem lw_p2 : lw_okq (⟨"RepairShop$Planner", "draftNew", "(I)V"⟩, 4) := ⟨⟨by decide +kernel, by decide +kernel⟩, List.mem_of_getElem? (i := 24) (by decide +kernel), List.mem_of_getElem? (i := 212) (by decide +kernel), List.mem_of_getElem? (i := 213) (by decide +kernel)⟩
theorem lw_p3 : lw_okq (⟨"RepairShop$Planner", "clearDraft", "()V"⟩, 4) := ⟨⟨by decide +kernel, by decide +kernel⟩, List.mem_of_getElem? (i := 24) (by decide +kernel), List.mem_of_getElem? (i := 216) (by decide +kernel), List.mem_of_getElem? (i := 217) (by decide +kernel)⟩
theorem lw_p4 : lw_okq (⟨"RepairShop$Planner", "fill", "(II)V"⟩, 4) := ⟨⟨by decide +kernel, by decide +kernel⟩, List.mem_of_getElem? (i := 24) (by decide +kernel), List.mem_of_getElem? (i := 220) (by decide +kernel), List.mem_of_getElem? (i := 221) (by decide +kernel)⟩
theorem lw_p5 : lw_okq (⟨"RepairShop$Planner", "waitUntil", "(II)I"⟩, 4) := ⟨⟨by decide +kernel, by decide +kernel⟩, List.mem_of_getElem? (i := 24) (by decide +kernel), List.mem_of_getElem? (i := 225) (by decide +kernel), List.mem_of_getElem? (i := 226) (by decide +kernel)⟩
theorem lw_p6 : lw_okq (⟨"RepairShop$Planner", "machineFreeFrom", "(I)I"⟩, 4) := ⟨⟨by decide +kernel, by decide +kernel⟩, List.mem_of_getElem? (i := 24) (by decide +kernel), List.mem_of_getElem? (i := 229) (by decide +kernel), List.mem_of_getElem? (i := 230) (by decide +kernel)⟩
theorem lw_p7 : lw_okq (⟨"RepairShop$Shop", "startWithoutHit", "(II)I"⟩, 15) := ⟨⟨by decide +kernel, by decide +kernel⟩, List.mem_of_getElem? (i := 30) (by decide +kernel), List.mem_of_getElem? (i := 234) (by decide +kernel), List.mem_of_getElem? (i := 235) (by decide +kernel)⟩
theorem lw_p8 : lw_okq (⟨"RepairShop$Shop", "hitsOne", "(III)Z"⟩, 15) := ⟨⟨by decide +kernel, by decide +kernel⟩, List.mem_of_getElem? (i := 30) (by decide +kernel), List.mem_of_getElem? (i := 238) (by decide +kernel), List.mem_of_getElem? (i := 239) (by decide +kernel)⟩
theorem lw_p9 : lw_okq (⟨"RepairShop$Planner", "rank", "(II)I"⟩, 4) := ⟨⟨by decide +kernel, by decide +kernel⟩, List.mem_of_getElem? (i := 24) (by decide +kernel), List.mem_of_getElem? (i := 242) (by decide +kernel), List.mem_of_getElem? (i := 243) (by decide +kernel)⟩
theorem lw_p10 : lw_okq (⟨"RepairShop$Planner", "setStart", "(II)V"⟩, 4) := ⟨⟨by decide +kernel, by decide +kernel⟩, List.mem_of_getElem? (i := 24) (by decide +kernel), List.mem_of_getElem? (i := 246) (by decide +kernel), List.mem_of_getElem? (i := 247) (by decide +kernel)⟩
theorem lw_p11 : lw_okq (⟨"RepairShop$Planner", "latenessOfDraft", "()I"⟩, 4) := ⟨⟨by decide +kernel, by decide +kernel⟩, List.mem_of_getElem? (i := 24) (by decide +kernel), List.mem_of_getElem? (i := 250) (by decide +kernel), List.mem_of_getElem? (i := 251) (by decide +kernel)⟩
theorem lw_p12 : lw_okq (⟨"RepairShop$Shop", "latenessOf", "([I)I"⟩, 15) := ⟨⟨by decide +kernel, by decide +kernel⟩, List.mem_of_getElem? (i := 30) (by decide +kernel), List.mem_of_getElem? (i := 254) (by decide +kernel), List.mem_of_getElem? (i := 255) (by decide +kernel)⟩
theorem lw_p13 : lw_okq (⟨"RepairShop$Shop", "latenessOfJob", "(I[I)I"⟩, 15) := ⟨⟨by decide +kernel, by decide +kernel⟩, List.mem_of_getElem? (i := 30) (by decide +kernel), List.mem_of_getElem? (i := 258) (by decide +kernel), List.mem_of_getElem? (i := 259) (by decide +kernel)⟩
theorem lw_p14 : lw_okq (⟨"RepairShop$Shop", "endOf", "(I[I)I"⟩, 15) := ⟨⟨by decide +kernel, by decide +kernel⟩, List.mem_of_getElem? (i := 30) (by decide +kernel), List.mem_of_getElem? (i := 262) (by decide +kernel), List.mem_of_getElem? (i := 263) (by decide +kernel)⟩
theorem lw_p15 : lw_okq (⟨"RepairShop$Planner", "draftShifted", "()V"⟩, 4) := ⟨⟨by decide +kernel, by decide +kernel⟩, List.mem_of_getElem? (i := 24) (by decide +kernel), List.mem_of_getElem? (i := 270) (by decide +kernel), List.mem_of_getElem? (i := 271) (by decide +kernel)⟩
def lw_privs_1 : List (MethodName × Nat) := [(⟨"RepairShop$Shop", "meetingTime", "()I"⟩, 15), (⟨"RepairShop$Planner", "latenessOfNew", "(I)I"⟩, 4), (⟨"RepairShop$Planner", "draftNew", "(I)V"⟩, 4), (⟨"RepairShop$Planner", "clearDraft", "()V"⟩, 4), (⟨"RepairShop$Planner", "fill", "(II)V"⟩, 4), (⟨"RepairShop$Planner", "waitUntil", "(II)I"⟩, 4), (⟨"RepairShop$Planner", "machineFreeFrom", "(I)I"⟩, 4), (⟨"RepairShop$Shop", "startWithoutHit", "(II)I"⟩, 15), (⟨"RepairShop$Shop", "hitsOne", "(III)Z"⟩, 15), (⟨"RepairShop$Planner", "rank", "(II)I"⟩, 4), (⟨"RepairShop$Planner", "setStart", "(II)V"⟩, 4), (⟨"RepairShop$Planner", "latenessOfDraft", "()I"⟩, 4), (⟨"RepairShop$Shop", "latenessOf", "([I)I"⟩, 15), (⟨"RepairShop$Shop", "latenessOfJob", "(I[I)I"⟩, 15), (⟨"RepairShop$Shop", "endOf", "(I[I)I"⟩, 15), (⟨"RepairShop$Planner", "draftShifted", "()V"⟩, 4)]
theorem lw_r1 : ∀ q ∈ lw_privs_1, lw_okq q := List.forall_mem_cons.mpr ⟨lw_p0, List.forall_mem_cons.mpr ⟨lw_p1, List.forall_mem_cons.mpr ⟨lw_p2, List.forall_mem_cons.mpr ⟨lw_p3, List.forall_mem_cons.mpr ⟨lw_p4, List.forall_mem_cons.mpr ⟨lw_p5, List.forall_mem_cons.mpr ⟨lw_p6, List.forall_mem_cons.mpr ⟨lw_p7, List.forall_mem_cons.mpr ⟨lw_p8, List.forall_mem_cons.mpr ⟨lw_p9, List.forall_mem_cons.mpr ⟨lw_p10, List.forall_mem_cons.mpr ⟨lw_p11, List.forall_mem_cons.mpr ⟨lw_p12, List.forall_mem_cons.mpr ⟨lw_p13, List.forall_mem_cons.mpr ⟨lw_p14, List.forall_mem_cons.mpr ⟨lw_p15, fun _ h => absurd h List.not_mem_nil⟩⟩⟩⟩⟩⟩⟩⟩⟩⟩⟩⟩⟩⟩⟩⟩
theorem lw_p16 : lw_okq (⟨"RepairShop$Shop", "greatestEnd", "()I"⟩, 15) := ⟨⟨by decide +kernel, by decide +kernel⟩, List.mem_of_getElem? (i := 30) (by decide +kernel), List.mem_of_getElem? (i := 279) (by decide +kernel), List.mem_of_getElem? (i := 280) (by decide +kernel)⟩
theorem lw_p17 : lw_okq (⟨"RepairShop$Shop", "allWork", "()I"⟩, 15) := ⟨⟨by decide +kernel, by decide +kernel⟩, List.mem_of_getElem? (i := 30) (by decide +kernel), List.mem_of_getElem? (i := 283) (by decide +kernel), List.mem_of_getElem? (i := 284) (by decide +kernel)⟩
theorem lw_p18 : lw_okq (⟨"RepairShop$Shop", "workOf", "(I)I"⟩, 15) := ⟨⟨by decide +kernel, by decide +kernel⟩, List.mem_of_getElem? (i := 30) (by decide +kernel), List.mem_of_getElem? (i := 287) (by decide +kernel), List.mem_of_getElem? (i := 288) (by decide +kernel)⟩
theorem lw_p19 : lw_okq (⟨"RepairShop$OrderText", "findError", "()I"⟩, 8) := ⟨⟨by decide +kernel, by decide +kernel⟩, List.mem_of_getElem? (i := 140) (by decide +kernel), List.mem_of_getElem? (i := 299) (by decide +kernel), List.mem_of_getElem? (i := 300) (by decide +kernel)⟩
theorem lw_p20 : lw_okq (⟨"RepairShop$OrderText", "startOver", "()V"⟩, 8) := ⟨⟨by decide +kernel, by decide +kernel⟩, List.mem_of_getElem? (i := 140) (by decide +kernel), List.mem_of_getElem? (i := 303) (by decide +kernel), List.mem_of_getElem? (i := 304) (by decide +kernel)⟩
theorem lw_p21 : lw_okq (⟨"RepairShop$OrderText", "readsOrder", "()Z"⟩, 8) := ⟨⟨by decide +kernel, by decide +kernel⟩, List.mem_of_getElem? (i := 140) (by decide +kernel), List.mem_of_getElem? (i := 307) (by decide +kernel), List.mem_of_getElem? (i := 308) (by decide +kernel)⟩
theorem lw_p22 : lw_okq (⟨"RepairShop$OrderText", "nextByte", "()I"⟩, 8) := ⟨⟨by decide +kernel, by decide +kernel⟩, List.mem_of_getElem? (i := 140) (by decide +kernel), List.mem_of_getElem? (i := 311) (by decide +kernel), List.mem_of_getElem? (i := 312) (by decide +kernel)⟩
theorem lw_p23 : lw_okq (⟨"RepairShop$OrderText", "readJob", "()V"⟩, 8) := ⟨⟨by decide +kernel, by decide +kernel⟩, List.mem_of_getElem? (i := 140) (by decide +kernel), List.mem_of_getElem? (i := 315) (by decide +kernel), List.mem_of_getElem? (i := 316) (by decide +kernel)⟩
theorem lw_p24 : lw_okq (⟨"RepairShop$OrderText", "readDigit", "(II)I"⟩, 8) := ⟨⟨by decide +kernel, by decide +kernel⟩, List.mem_of_getElem? (i := 140) (by decide +kernel), List.mem_of_getElem? (i := 319) (by decide +kernel), List.mem_of_getElem? (i := 320) (by decide +kernel)⟩
theorem lw_p25 : lw_okq (⟨"RepairShop$OrderText", "readSign", "(I)V"⟩, 8) := ⟨⟨by decide +kernel, by decide +kernel⟩, List.mem_of_getElem? (i := 140) (by decide +kernel), List.mem_of_getElem? (i := 326) (by decide +kernel), List.mem_of_getElem? (i := 327) (by decide +kernel)⟩
theorem lw_p26 : lw_okq (⟨"RepairShop$OrderText", "readNumber", "(III)I"⟩, 8) := ⟨⟨by decide +kernel, by decide +kernel⟩, List.mem_of_getElem? (i := 140) (by decide +kernel), List.mem_of_getElem? (i := 330) (by decide +kernel), List.mem_of_getElem? (i := 331) (by decide +kernel)⟩
theorem lw_p27 : lw_okq (⟨"RepairShop$OrderText", "isAtDigit", "()Z"⟩, 8) := ⟨⟨by decide +kernel, by decide +kernel⟩, List.mem_of_getElem? (i := 140) (by decide +kernel), List.mem_of_getElem? (i := 334) (by decide +kernel), List.mem_of_getElem? (i := 335) (by decide +kernel)⟩
theorem lw_p28 : lw_okq (⟨"RepairShop$OrderText", "readOperation", "()V"⟩, 8) := ⟨⟨by decide +kernel, by decide +kernel⟩, List.mem_of_getElem? (i := 140) (by decide +kernel), List.mem_of_getElem? (i := 338) (by decide +kernel), List.mem_of_getElem? (i := 339) (by decide +kernel)⟩
theorem lw_p29 : lw_okq (⟨"RepairShop$OrderText", "readBreakdown", "()V"⟩, 8) := ⟨⟨by decide +kernel, by decide +kernel⟩, List.mem_of_getElem? (i := 140) (by decide +kernel), List.mem_of_getElem? (i := 342) (by decide +kernel), List.mem_of_getElem? (i := 343) (by decide +kernel)⟩
theorem lw_p30 : lw_okq (⟨"RepairShop$History", "save", "(LRepairShop$Shop;)V"⟩, 3) := ⟨⟨by decide +kernel, by decide +kernel⟩, List.mem_of_getElem? (i := 120) (by decide +kernel), List.mem_of_getElem? (i := 346) (by decide +kernel), List.mem_of_getElem? (i := 347) (by decide +kernel)⟩
theorem lw_p31 : lw_okq (⟨"RepairShop$Shop", "copyFrom", "(LRepairShop$Shop;)V"⟩, 15) := ⟨⟨by decide +kernel, by decide +kernel⟩, List.mem_of_getElem? (i := 30) (by decide +kernel), List.mem_of_getElem? (i := 350) (by decide +kernel), List.mem_of_getElem? (i := 351) (by decide +kernel)⟩
def lw_privs_2 : List (MethodName × Nat) := [(⟨"RepairShop$Shop", "greatestEnd", "()I"⟩, 15), (⟨"RepairShop$Shop", "allWork", "()I"⟩, 15), (⟨"RepairShop$Shop", "workOf", "(I)I"⟩, 15), (⟨"RepairShop$OrderText", "findError", "()I"⟩, 8), (⟨"RepairShop$OrderText", "startOver", "()V"⟩, 8), (⟨"RepairShop$OrderText", "readsOrder", "()Z"⟩, 8), (⟨"RepairShop$OrderText", "nextByte", "()I"⟩, 8), (⟨"RepairShop$OrderText", "readJob", "()V"⟩, 8), (⟨"RepairShop$OrderText", "readDigit", "(II)I"⟩, 8), (⟨"RepairShop$OrderText", "readSign", "(I)V"⟩, 8), (⟨"RepairShop$OrderText", "readNumber", "(III)I"⟩, 8), (⟨"RepairShop$OrderText", "isAtDigit", "()Z"⟩, 8), (⟨"RepairShop$OrderText", "readOperation", "()V"⟩, 8), (⟨"RepairShop$OrderText", "readBreakdown", "()V"⟩, 8), (⟨"RepairShop$History", "save", "(LRepairShop$Shop;)V"⟩, 3), (⟨"RepairShop$Shop", "copyFrom", "(LRepairShop$Shop;)V"⟩, 15)]
theorem lw_r2 : ∀ q ∈ lw_privs_2, lw_okq q := List.forall_mem_cons.mpr ⟨lw_p16, List.forall_mem_cons.mpr ⟨lw_p17, List.forall_mem_cons.mpr ⟨lw_p18, List.forall_mem_cons.mpr ⟨lw_p19, List.forall_mem_cons.mpr ⟨lw_p20, List.forall_mem_cons.mpr ⟨lw_p21, List.forall_mem_cons.mpr ⟨lw_p22, List.forall_mem_cons.mpr ⟨lw_p23, List.forall_mem_cons.mpr ⟨lw_p24, List.forall_mem_cons.mpr ⟨lw_p25, List.forall_mem_cons.mpr ⟨lw_p26, List.forall_mem_cons.mpr ⟨lw_p27, List.forall_mem_cons.mpr ⟨lw_p28, List.forall_mem_cons.mpr ⟨lw_p29, List.forall_mem_cons.mpr ⟨lw_p30, List.forall_mem_cons.mpr ⟨lw_p31, fun _ h => absurd h List.not_mem_nil⟩⟩⟩⟩⟩⟩⟩⟩⟩⟩⟩⟩⟩⟩⟩⟩
theorem lw_p32 : lw_okq (⟨"RepairShop", "carriesOutOrder", "()Z"⟩, 4) := ⟨⟨by decide +kernel, by decide +kernel⟩, List.mem_of_getElem? (i := 16) (by decide +kernel), List.mem_of_getElem? (i := 362) (by decide +kernel), List.mem_of_getElem? (i := 363) (by decide +kernel)⟩
theorem lw_p33 : lw_okq (⟨"RepairShop$Shop", "takesJob", "()Z"⟩, 15) := ⟨⟨by decide +kernel, by decide +kernel⟩, List.mem_of_getElem? (i := 30) (by decide +kernel), List.mem_of_getElem? (i := 366) (by decide +kernel), List.mem_of_getElem? (i := 367) (by decide +kernel)⟩
theorem lw_p34 : lw_okq (⟨"RepairShop$Shop", "takeJob", "(II)I"⟩, 15) := ⟨⟨by decide +kernel, by decide +kernel⟩, List.mem_of_getElem? (i := 30) (by decide +kernel), List.mem_of_getElem? (i := 370) (by decide +kernel), List.mem_of_getElem? (i := 371) (by decide +kernel)⟩
theorem lw_p35 : lw_okq (⟨"RepairShop$Shop", "hasJob", "(I)Z"⟩, 15) := ⟨⟨by decide +kernel, by decide +kernel⟩, List.mem_of_getElem? (i := 30) (by decide +kernel), List.mem_of_getElem? (i := 374) (by decide +kernel), List.mem_of_getElem? (i := 375) (by decide +kernel)⟩
theorem lw_p36 : lw_okq (⟨"RepairShop$Shop", "hasMachine", "(I)Z"⟩, 15) := ⟨⟨by decide +kernel, by decide +kernel⟩, List.mem_of_getElem? (i := 30) (by decide +kernel), List.mem_of_getElem? (i := 378) (by decide +kernel), List.mem_of_getElem? (i := 379) (by decide +kernel)⟩
theorem lw_p37 : lw_okq (⟨"RepairShop$Shop", "takesOperation", "(I)Z"⟩, 15) := ⟨⟨by decide +kernel, by decide +kernel⟩, List.mem_of_getElem? (i := 30) (by decide +kernel), List.mem_of_getElem? (i := 382) (by decide +kernel), List.mem_of_getElem? (i := 383) (by decide +kernel)⟩
theorem lw_p38 : lw_okq (⟨"RepairShop$Shop", "takeOperation", "(III)I"⟩, 15) := ⟨⟨by decide +kernel, by decide +kernel⟩, List.mem_of_getElem? (i := 30) (by decide +kernel), List.mem_of_getElem? (i := 386) (by decide +kernel), List.mem_of_getElem? (i := 387) (by decide +kernel)⟩
theorem lw_p39 : lw_okq (⟨"RepairShop$Shop", "takesBreakdown", "()Z"⟩, 15) := ⟨⟨by decide +kernel, by decide +kernel⟩, List.mem_of_getElem? (i := 30) (by decide +kernel), List.mem_of_getElem? (i := 390) (by decide +kernel), List.mem_of_getElem? (i := 391) (by decide +kernel)⟩
theorem lw_p40 : lw_okq (⟨"RepairShop$Shop", "takeBreakdown", "(III)I"⟩, 15) := ⟨⟨by decide +kernel, by decide +kernel⟩, List.mem_of_getElem? (i := 30) (by decide +kernel), List.mem_of_getElem? (i := 394) (by decide +kernel), List.mem_of_getElem? (i := 395) (by decide +kernel)⟩
theorem lw_p41 : lw_okq (⟨"RepairShop", "takeNewPlan", "(I)I"⟩, 4) := ⟨⟨by decide +kernel, by decide +kernel⟩, List.mem_of_getElem? (i := 16) (by decide +kernel), List.mem_of_getElem? (i := 398) (by decide +kernel), List.mem_of_getElem? (i := 399) (by decide +kernel)⟩
theorem lw_p42 : lw_okq (⟨"RepairShop$Planner", "copyDraftTo", "([I)V"⟩, 4) := ⟨⟨by decide +kernel, by decide +kernel⟩, List.mem_of_getElem? (i := 24) (by decide +kernel), List.mem_of_getElem? (i := 403) (by decide +kernel), List.mem_of_getElem? (i := 404) (by decide +kernel)⟩
theorem lw_p43 : lw_okq (⟨"java/lang/Throwable", "fillInStackTrace", "(I)Ljava/lang/Throwable;"⟩, 6) := ⟨⟨by decide +kernel, by decide +kernel⟩, List.mem_of_getElem? (i := 461) (by decide +kernel), List.mem_of_getElem? (i := 459) (by decide +kernel), List.mem_of_getElem? (i := 460) (by decide +kernel)⟩
theorem lw_p44 : lw_okq (⟨"RepairShop$Shop", "countOperations", "()I"⟩, 15) := ⟨⟨by decide +kernel, by decide +kernel⟩, List.mem_of_getElem? (i := 30) (by decide +kernel), List.mem_of_getElem? (i := 491) (by decide +kernel), List.mem_of_getElem? (i := 492) (by decide +kernel)⟩
theorem lw_p45 : lw_okq (⟨"RepairShop", "valueOfPlans", "(I)I"⟩, 4) := ⟨⟨by decide +kernel, by decide +kernel⟩, List.mem_of_getElem? (i := 16) (by decide +kernel), List.mem_of_getElem? (i := 495) (by decide +kernel), List.mem_of_getElem? (i := 496) (by decide +kernel)⟩
theorem lw_p46 : lw_okq (⟨"RepairShop$Shop", "countHits", "()I"⟩, 15) := ⟨⟨by decide +kernel, by decide +kernel⟩, List.mem_of_getElem? (i := 30) (by decide +kernel), List.mem_of_getElem? (i := 499) (by decide +kernel), List.mem_of_getElem? (i := 500) (by decide +kernel)⟩
theorem lw_p47 : lw_okq (⟨"RepairShop$Shop", "hits", "(II)Z"⟩, 15) := ⟨⟨by decide +kernel, by decide +kernel⟩, List.mem_of_getElem? (i := 30) (by decide +kernel), List.mem_of_getElem? (i := 503) (by decide +kernel), List.mem_of_getElem? (i := 504) (by decide +kernel)⟩
def lw_privs_3 : List (MethodName × Nat) := [(⟨"RepairShop", "carriesOutOrder", "()Z"⟩, 4), (⟨"RepairShop$Shop", "takesJob", "()Z"⟩, 15), (⟨"RepairShop$Shop", "takeJob", "(II)I"⟩, 15), (⟨"RepairShop$Shop", "hasJob", "(I)Z"⟩, 15), (⟨"RepairShop$Shop", "hasMachine", "(I)Z"⟩, 15), (⟨"RepairShop$Shop", "takesOperation", "(I)Z"⟩, 15), (⟨"RepairShop$Shop", "takeOperation", "(III)I"⟩, 15), (⟨"RepairShop$Shop", "takesBreakdown", "()Z"⟩, 15), (⟨"RepairShop$Shop", "takeBreakdown", "(III)I"⟩, 15), (⟨"RepairShop", "takeNewPlan", "(I)I"⟩, 4), (⟨"RepairShop$Planner", "copyDraftTo", "([I)V"⟩, 4), (⟨"java/lang/Throwable", "fillInStackTrace", "(I)Ljava/lang/Throwable;"⟩, 6), (⟨"RepairShop$Shop", "countOperations", "()I"⟩, 15), (⟨"RepairShop", "valueOfPlans", "(I)I"⟩, 4), (⟨"RepairShop$Shop", "countHits", "()I"⟩, 15), (⟨"RepairShop$Shop", "hits", "(II)Z"⟩, 15)]
theorem lw_r3 : ∀ q ∈ lw_privs_3, lw_okq q := List.forall_mem_cons.mpr ⟨lw_p32, List.forall_mem_cons.mpr ⟨lw_p33, List.forall_mem_cons.mpr ⟨lw_p34, List.forall_mem_cons.mpr ⟨lw_p35, List.forall_mem_cons.mpr ⟨lw_p36, List.forall_mem_cons.mpr ⟨lw_p37, List.forall_mem_cons.mpr ⟨lw_p38, List.forall_mem_cons.mpr ⟨lw_p39, List.forall_mem_cons.mpr ⟨lw_p40, List.forall_mem_cons.mpr ⟨lw_p41, List.forall_mem_cons.mpr ⟨lw_p42, List.forall_mem_cons.mpr ⟨lw_p43, List.forall_mem_cons.mpr ⟨lw_p44, List.forall_mem_cons.mpr ⟨lw_p45, List.forall_mem_cons.mpr ⟨lw_p46, List.forall_mem_cons.mpr ⟨lw_p47, fun _ h => absurd h List.not_mem_nil⟩⟩⟩⟩⟩⟩⟩⟩⟩⟩⟩⟩⟩⟩⟩⟩
theorem lw_p48 : lw_okq (⟨"RepairShop", "joinedJob", "(JI)J"⟩, 4) := ⟨⟨by decide +kernel, by decide +kernel⟩, List.mem_of_getElem? (i := 16) (by decide +kernel), List.mem_of_getElem? (i := 507) (by decide +kernel), List.mem_of_getElem? (i := 508) (by decide +kernel)⟩
theorem lw_p49 : lw_okq (⟨"RepairShop$Shop", "hasOperation", "(II)Z"⟩, 15) := ⟨⟨by decide +kernel, by decide +kernel⟩, List.mem_of_getElem? (i := 30) (by decide +kernel), List.mem_of_getElem? (i := 539) (by decide +kernel), List.mem_of_getElem? (i := 540) (by decide +kernel)⟩
theorem lw_p50 : lw_okq (⟨"RepairShop$Shop", "hasBreakdown", "(I)Z"⟩, 15) := ⟨⟨by decide +kernel, by decide +kernel⟩, List.mem_of_getElem? (i := 30) (by decide +kernel), List.mem_of_getElem? (i := 552) (by decide +kernel), List.mem_of_getElem? (i := 553) (by decide +kernel)⟩
theorem lw_p51 : lw_okq (⟨"RepairShop$Shop", "empty", "(I)V"⟩, 15) := ⟨⟨by decide +kernel, by decide +kernel⟩, List.mem_of_getElem? (i := 30) (by decide +kernel), List.mem_of_getElem? (i := 569) (by decide +kernel), List.mem_of_getElem? (i := 570) (by decide +kernel)⟩
theorem lw_p52 : lw_okq (⟨"RepairShop$Planner", "draftFrom", "(II)V"⟩, 4) := ⟨⟨by decide +kernel, by decide +kernel⟩, List.mem_of_getElem? (i := 24) (by decide +kernel), List.mem_of_getElem? (i := 654) (by decide +kernel), List.mem_of_getElem? (i := 655) (by decide +kernel)⟩
theorem lw_p53 : lw_okq (⟨"RepairShop$Planner", "keepUntil", "(II)V"⟩, 4) := ⟨⟨by decide +kernel, by decide +kernel⟩, List.mem_of_getElem? (i := 24) (by decide +kernel), List.mem_of_getElem? (i := 658) (by decide +kernel), List.mem_of_getElem? (i := 659) (by decide +kernel)⟩
theorem lw_p54 : lw_okq (⟨"RepairShop$Shop", "acceptPresent", "()I"⟩, 15) := ⟨⟨by decide +kernel, by decide +kernel⟩, List.mem_of_getElem? (i := 30) (by decide +kernel), List.mem_of_getElem? (i := 670) (by decide +kernel), List.mem_of_getElem? (i := 671) (by decide +kernel)⟩
theorem lw_p55 : lw_okq (⟨"RepairShop$Shop", "codeAt", "(II)I"⟩, 15) := ⟨⟨by decide +kernel, by decide +kernel⟩, List.mem_of_getElem? (i := 30) (by decide +kernel), List.mem_of_getElem? (i := 715) (by decide +kernel), List.mem_of_getElem? (i := 716) (by decide +kernel)⟩
theorem lw_p56 : lw_okq (⟨"RepairShop$Shop", "countBefore", "(II)I"⟩, 15) := ⟨⟨by decide +kernel, by decide +kernel⟩, List.mem_of_getElem? (i := 30) (by decide +kernel), List.mem_of_getElem? (i := 719) (by decide +kernel), List.mem_of_getElem? (i := 720) (by decide +kernel)⟩
theorem lw_p57 : lw_okq (⟨"RepairShop$Planner", "latenessOfReplan", "(II)I"⟩, 4) := ⟨⟨by decide +kernel, by decide +kernel⟩, List.mem_of_getElem? (i := 24) (by decide +kernel), List.mem_of_getElem? (i := 738) (by decide +kernel), List.mem_of_getElem? (i := 739) (by decide +kernel)⟩
theorem lw_p58 : lw_okq (⟨"RepairShop", "latenessWithOvertime", "(II)I"⟩, 4) := ⟨⟨by decide +kernel, by decide +kernel⟩, List.mem_of_getElem? (i := 16) (by decide +kernel), List.mem_of_getElem? (i := 753) (by decide +kernel), List.mem_of_getElem? (i := 754) (by decide +kernel)⟩
theorem lw_p59 : lw_okq (⟨"RepairShop$History", "restore", "(LRepairShop$Shop;)V"⟩, 3) := ⟨⟨by decide +kernel, by decide +kernel⟩, List.mem_of_getElem? (i := 120) (by decide +kernel), List.mem_of_getElem? (i := 774) (by decide +kernel), List.mem_of_getElem? (i := 775) (by decide +kernel)⟩
theorem lw_p60 : lw_okq (⟨"RepairShopModel", "save", "()V"⟩, 12) := ⟨⟨by decide +kernel, by decide +kernel⟩, List.mem_of_getElem? (i := 779) (by decide +kernel), List.mem_of_getElem? (i := 833) (by decide +kernel), List.mem_of_getElem? (i := 834) (by decide +kernel)⟩
theorem lw_p61 : lw_okq (⟨"RepairShopModel", "whyNoJob", "(II)I"⟩, 12) := ⟨⟨by decide +kernel, by decide +kernel⟩, List.mem_of_getElem? (i := 779) (by decide +kernel), List.mem_of_getElem? (i := 844) (by decide +kernel), List.mem_of_getElem? (i := 845) (by decide +kernel)⟩
theorem lw_p62 : lw_okq (⟨"RepairShopModel", "putJob", "(II)I"⟩, 12) := ⟨⟨by decide +kernel, by decide +kernel⟩, List.mem_of_getElem? (i := 779) (by decide +kernel), List.mem_of_getElem? (i := 848) (by decide +kernel), List.mem_of_getElem? (i := 849) (by decide +kernel)⟩
theorem lw_p63 : lw_okq (⟨"RepairShopModel", "whyNoOperation", "(III)I"⟩, 12) := ⟨⟨by decide +kernel, by decide +kernel⟩, List.mem_of_getElem? (i := 779) (by decide +kernel), List.mem_of_getElem? (i := 856) (by decide +kernel), List.mem_of_getElem? (i := 857) (by decide +kernel)⟩
def lw_privs_4 : List (MethodName × Nat) := [(⟨"RepairShop", "joinedJob", "(JI)J"⟩, 4), (⟨"RepairShop$Shop", "hasOperation", "(II)Z"⟩, 15), (⟨"RepairShop$Shop", "hasBreakdown", "(I)Z"⟩, 15), (⟨"RepairShop$Shop", "empty", "(I)V"⟩, 15), (⟨"RepairShop$Planner", "draftFrom", "(II)V"⟩, 4), (⟨"RepairShop$Planner", "keepUntil", "(II)V"⟩, 4), (⟨"RepairShop$Shop", "acceptPresent", "()I"⟩, 15), (⟨"RepairShop$Shop", "codeAt", "(II)I"⟩, 15), (⟨"RepairShop$Shop", "countBefore", "(II)I"⟩, 15), (⟨"RepairShop$Planner", "latenessOfReplan", "(II)I"⟩, 4), (⟨"RepairShop", "latenessWithOvertime", "(II)I"⟩, 4), (⟨"RepairShop$History", "restore", "(LRepairShop$Shop;)V"⟩, 3), (⟨"RepairShopModel", "save", "()V"⟩, 12), (⟨"RepairShopModel", "whyNoJob", "(II)I"⟩, 12), (⟨"RepairShopModel", "putJob", "(II)I"⟩, 12), (⟨"RepairShopModel", "whyNoOperation", "(III)I"⟩, 12)]
theorem lw_r4 : ∀ q ∈ lw_privs_4, lw_okq q := List.forall_mem_cons.mpr ⟨lw_p48, List.forall_mem_cons.mpr ⟨lw_p49, List.forall_mem_cons.mpr ⟨lw_p50, List.forall_mem_cons.mpr ⟨lw_p51, List.forall_mem_cons.mpr ⟨lw_p52, List.forall_mem_cons.mpr ⟨lw_p53, List.forall_mem_cons.mpr ⟨lw_p54, List.forall_mem_cons.mpr ⟨lw_p55, List.forall_mem_cons.mpr ⟨lw_p56, List.forall_mem_cons.mpr ⟨lw_p57, List.forall_mem_cons.mpr ⟨lw_p58, List.forall_mem_cons.mpr ⟨lw_p59, List.forall_mem_cons.mpr ⟨lw_p60, List.forall_mem_cons.mpr ⟨lw_p61, List.forall_mem_cons.mpr ⟨lw_p62, List.forall_mem_cons.mpr ⟨lw_p63, fun _ h => absurd h List.not_mem_nil⟩⟩⟩⟩⟩⟩⟩⟩⟩⟩⟩⟩⟩⟩⟩⟩
theorem lw_p64 : lw_okq (⟨"RepairShopModel", "isJob", "(I)Z"⟩, 12) := ⟨⟨by decide +kernel, by decide +kernel⟩, List.mem_of_getElem? (i := 779) (by decide +kernel), List.mem_of_getElem? (i := 860) (by decide +kernel), List.mem_of_getElem? (i := 861) (by decide +kernel)⟩
theorem lw_p65 : lw_okq (⟨"RepairShopModel", "isMachine", "(I)Z"⟩, 12) := ⟨⟨by decide +kernel, by decide +kernel⟩, List.mem_of_getElem? (i := 779) (by decide +kernel), List.mem_of_getElem? (i := 864) (by decide +kernel), List.mem_of_getElem? (i := 865) (by decide +kernel)⟩
theorem lw_p66 : lw_okq (⟨"RepairShopModel", "jobPart", "(II)I"⟩, 12) := ⟨⟨by decide +kernel, by decide +kernel⟩, List.mem_of_getElem? (i := 779) (by decide +kernel), List.mem_of_getElem? (i := 868) (by decide +kernel), List.mem_of_getElem? (i := 869) (by decide +kernel)⟩
theorem lw_p67 : lw_okq (⟨"RepairShopModel", "putOperation", "(III)I"⟩, 12) := ⟨⟨by decide +kernel, by decide +kernel⟩, List.mem_of_getElem? (i := 779) (by decide +kernel), List.mem_of_getElem? (i := 872) (by decide +kernel), List.mem_of_getElem? (i := 873) (by decide +kernel)⟩
theorem lw_p68 : lw_okq (⟨"RepairShopModel", "whyNoBreakdown", "(III)I"⟩, 12) := ⟨⟨by decide +kernel, by decide +kernel⟩, List.mem_of_getElem? (i := 779) (by decide +kernel), List.mem_of_getElem? (i := 883) (by decide +kernel), List.mem_of_getElem? (i := 884) (by decide +kernel)⟩
theorem lw_p69 : lw_okq (⟨"RepairShopModel", "putBreakdown", "(III)I"⟩, 12) := ⟨⟨by decide +kernel, by decide +kernel⟩, List.mem_of_getElem? (i := 779) (by decide +kernel), List.mem_of_getElem? (i := 887) (by decide +kernel), List.mem_of_getElem? (i := 888) (by decide +kernel)⟩
theorem lw_p70 : lw_okq (⟨"RepairShopModel", "makePlan", "(I)V"⟩, 12) := ⟨⟨by decide +kernel, by decide +kernel⟩, List.mem_of_getElem? (i := 779) (by decide +kernel), List.mem_of_getElem? (i := 902) (by decide +kernel), List.mem_of_getElem? (i := 903) (by decide +kernel)⟩
theorem lw_p71 : lw_okq (⟨"RepairShopModel", "fill", "(II)V"⟩, 12) := ⟨⟨by decide +kernel, by decide +kernel⟩, List.mem_of_getElem? (i := 779) (by decide +kernel), List.mem_of_getElem? (i := 906) (by decide +kernel), List.mem_of_getElem? (i := 907) (by decide +kernel)⟩
theorem lw_p72 : lw_okq (⟨"RepairShopModel", "nextOf", "(I)I"⟩, 12) := ⟨⟨by decide +kernel, by decide +kernel⟩, List.mem_of_getElem? (i := 779) (by decide +kernel), List.mem_of_getElem? (i := 910) (by decide +kernel), List.mem_of_getElem? (i := 911) (by decide +kernel)⟩
theorem lw_p73 : lw_okq (⟨"RepairShopModel", "part", "(III)I"⟩, 12) := ⟨⟨by decide +kernel, by decide +kernel⟩, List.mem_of_getElem? (i := 779) (by decide +kernel), List.mem_of_getElem? (i := 914) (by decide +kernel), List.mem_of_getElem? (i := 915) (by decide +kernel)⟩
theorem lw_p74 : lw_okq (⟨"RepairShopModel", "earliest", "(III)I"⟩, 12) := ⟨⟨by decide +kernel, by decide +kernel⟩, List.mem_of_getElem? (i := 779) (by decide +kernel), List.mem_of_getElem? (i := 918) (by decide +kernel), List.mem_of_getElem? (i := 919) (by decide +kernel)⟩
theorem lw_p75 : lw_okq (⟨"RepairShopModel", "endOf", "(III)I"⟩, 12) := ⟨⟨by decide +kernel, by decide +kernel⟩, List.mem_of_getElem? (i := 779) (by decide +kernel), List.mem_of_getElem? (i := 922) (by decide +kernel), List.mem_of_getElem? (i := 923) (by decide +kernel)⟩
theorem lw_p76 : lw_okq (⟨"RepairShopModel", "free", "(III)I"⟩, 12) := ⟨⟨by decide +kernel, by decide +kernel⟩, List.mem_of_getElem? (i := 779) (by decide +kernel), List.mem_of_getElem? (i := 926) (by decide +kernel), List.mem_of_getElem? (i := 927) (by decide +kernel)⟩
theorem lw_p77 : lw_okq (⟨"RepairShopModel", "hits", "(III)I"⟩, 12) := ⟨⟨by decide +kernel, by decide +kernel⟩, List.mem_of_getElem? (i := 779) (by decide +kernel), List.mem_of_getElem? (i := 930) (by decide +kernel), List.mem_of_getElem? (i := 931) (by decide +kernel)⟩
theorem lw_p78 : lw_okq (⟨"RepairShopModel", "breakPart", "(II)I"⟩, 12) := ⟨⟨by decide +kernel, by decide +kernel⟩, List.mem_of_getElem? (i := 779) (by decide +kernel), List.mem_of_getElem? (i := 934) (by decide +kernel), List.mem_of_getElem? (i := 935) (by decide +kernel)⟩
theorem lw_p79 : lw_okq (⟨"RepairShopModel", "ranked", "(III)I"⟩, 12) := ⟨⟨by decide +kernel, by decide +kernel⟩, List.mem_of_getElem? (i := 779) (by decide +kernel), List.mem_of_getElem? (i := 938) (by decide +kernel), List.mem_of_getElem? (i := 939) (by decide +kernel)⟩
def lw_privs_5 : List (MethodName × Nat) := [(⟨"RepairShopModel", "isJob", "(I)Z"⟩, 12), (⟨"RepairShopModel", "isMachine", "(I)Z"⟩, 12), (⟨"RepairShopModel", "jobPart", "(II)I"⟩, 12), (⟨"RepairShopModel", "putOperation", "(III)I"⟩, 12), (⟨"RepairShopModel", "whyNoBreakdown", "(III)I"⟩, 12), (⟨"RepairShopModel", "putBreakdown", "(III)I"⟩, 12), (⟨"RepairShopModel", "makePlan", "(I)V"⟩, 12), (⟨"RepairShopModel", "fill", "(II)V"⟩, 12), (⟨"RepairShopModel", "nextOf", "(I)I"⟩, 12), (⟨"RepairShopModel", "part", "(III)I"⟩, 12), (⟨"RepairShopModel", "earliest", "(III)I"⟩, 12), (⟨"RepairShopModel", "endOf", "(III)I"⟩, 12), (⟨"RepairShopModel", "free", "(III)I"⟩, 12), (⟨"RepairShopModel", "hits", "(III)I"⟩, 12), (⟨"RepairShopModel", "breakPart", "(II)I"⟩, 12), (⟨"RepairShopModel", "ranked", "(III)I"⟩, 12)]
theorem lw_r5 : ∀ q ∈ lw_privs_5, lw_okq q := List.forall_mem_cons.mpr ⟨lw_p64, List.forall_mem_cons.mpr ⟨lw_p65, List.forall_mem_cons.mpr ⟨lw_p66, List.forall_mem_cons.mpr ⟨lw_p67, List.forall_mem_cons.mpr ⟨lw_p68, List.forall_mem_cons.mpr ⟨lw_p69, List.forall_mem_cons.mpr ⟨lw_p70, List.forall_mem_cons.mpr ⟨lw_p71, List.forall_mem_cons.mpr ⟨lw_p72, List.forall_mem_cons.mpr ⟨lw_p73, List.forall_mem_cons.mpr ⟨lw_p74, List.forall_mem_cons.mpr ⟨lw_p75, List.forall_mem_cons.mpr ⟨lw_p76, List.forall_mem_cons.mpr ⟨lw_p77, List.forall_mem_cons.mpr ⟨lw_p78, List.forall_mem_cons.mpr ⟨lw_p79, fun _ h => absurd h List.not_mem_nil⟩⟩⟩⟩⟩⟩⟩⟩⟩⟩⟩⟩⟩⟩⟩⟩
theorem lw_p80 : lw_okq (⟨"RepairShopModel", "copyStarts", "(II)I"⟩, 12) := ⟨⟨by decide +kernel, by decide +kernel⟩, List.mem_of_getElem? (i := 779) (by decide +kernel), List.mem_of_getElem? (i := 942) (by decide +kernel), List.mem_of_getElem? (i := 943) (by decide +kernel)⟩
theorem lw_p81 : lw_okq (⟨"RepairShopModel", "lateness", "(I)I"⟩, 12) := ⟨⟨by decide +kernel, by decide +kernel⟩, List.mem_of_getElem? (i := 779) (by decide +kernel), List.mem_of_getElem? (i := 946) (by decide +kernel), List.mem_of_getElem? (i := 947) (by decide +kernel)⟩
theorem lw_p82 : lw_okq (⟨"RepairShopModel", "latenessOf", "(II)I"⟩, 12) := ⟨⟨by decide +kernel, by decide +kernel⟩, List.mem_of_getElem? (i := 779) (by decide +kernel), List.mem_of_getElem? (i := 950) (by decide +kernel), List.mem_of_getElem? (i := 951) (by decide +kernel)⟩
theorem lw_p83 : lw_okq (⟨"RepairShopModel", "hasPlan", "()Z"⟩, 12) := ⟨⟨by decide +kernel, by decide +kernel⟩, List.mem_of_getElem? (i := 779) (by decide +kernel), List.mem_of_getElem? (i := 958) (by decide +kernel), List.mem_of_getElem? (i := 959) (by decide +kernel)⟩
theorem lw_p84 : lw_okq (⟨"RepairShopModel", "shiftPlan", "()V"⟩, 12) := ⟨⟨by decide +kernel, by decide +kernel⟩, List.mem_of_getElem? (i := 779) (by decide +kernel), List.mem_of_getElem? (i := 962) (by decide +kernel), List.mem_of_getElem? (i := 963) (by decide +kernel)⟩
theorem lw_p85 : lw_okq (⟨"RepairShopModel", "shifted", "(II)I"⟩, 12) := ⟨⟨by decide +kernel, by decide +kernel⟩, List.mem_of_getElem? (i := 779) (by decide +kernel), List.mem_of_getElem? (i := 966) (by decide +kernel), List.mem_of_getElem? (i := 967) (by decide +kernel)⟩
theorem lw_p86 : lw_okq (⟨"RepairShopModel", "planAnew", "(II)V"⟩, 12) := ⟨⟨by decide +kernel, by decide +kernel⟩, List.mem_of_getElem? (i := 779) (by decide +kernel), List.mem_of_getElem? (i := 977) (by decide +kernel), List.mem_of_getElem? (i := 978) (by decide +kernel)⟩
theorem lw_p87 : lw_okq (⟨"RepairShopModel", "isOperation", "(II)Z"⟩, 12) := ⟨⟨by decide +kernel, by decide +kernel⟩, List.mem_of_getElem? (i := 779) (by decide +kernel), List.mem_of_getElem? (i := 993) (by decide +kernel), List.mem_of_getElem? (i := 994) (by decide +kernel)⟩
theorem lw_p88 : lw_okq (⟨"RepairShopModel", "jobValue", "(II)I"⟩, 12) := ⟨⟨by decide +kernel, by decide +kernel⟩, List.mem_of_getElem? (i := 779) (by decide +kernel), List.mem_of_getElem? (i := 1001) (by decide +kernel), List.mem_of_getElem? (i := 1002) (by decide +kernel)⟩
theorem lw_p89 : lw_okq (⟨"RepairShopModel", "operationValue", "(III)I"⟩, 12) := ⟨⟨by decide +kernel, by decide +kernel⟩, List.mem_of_getElem? (i := 779) (by decide +kernel), List.mem_of_getElem? (i := 1009) (by decide +kernel), List.mem_of_getElem? (i := 1010) (by decide +kernel)⟩
theorem lw_p90 : lw_okq (⟨"RepairShopModel", "isHit", "(II)I"⟩, 12) := ⟨⟨by decide +kernel, by decide +kernel⟩, List.mem_of_getElem? (i := 779) (by decide +kernel), List.mem_of_getElem? (i := 1013) (by decide +kernel), List.mem_of_getElem? (i := 1014) (by decide +kernel)⟩
theorem lw_p91 : lw_okq (⟨"RepairShopModel", "valueOf", "(I)I"⟩, 12) := ⟨⟨by decide +kernel, by decide +kernel⟩, List.mem_of_getElem? (i := 779) (by decide +kernel), List.mem_of_getElem? (i := 1025) (by decide +kernel), List.mem_of_getElem? (i := 1026) (by decide +kernel)⟩
theorem lw_p92 : lw_okq (⟨"RepairShopModel", "operationMany", "()I"⟩, 12) := ⟨⟨by decide +kernel, by decide +kernel⟩, List.mem_of_getElem? (i := 779) (by decide +kernel), List.mem_of_getElem? (i := 1029) (by decide +kernel), List.mem_of_getElem? (i := 1030) (by decide +kernel)⟩
theorem lw_p93 : lw_okq (⟨"RepairShopModel", "greatestEnd", "()I"⟩, 12) := ⟨⟨by decide +kernel, by decide +kernel⟩, List.mem_of_getElem? (i := 779) (by decide +kernel), List.mem_of_getElem? (i := 1033) (by decide +kernel), List.mem_of_getElem? (i := 1034) (by decide +kernel)⟩
theorem lw_p94 : lw_okq (⟨"RepairShopModel", "hitMany", "()I"⟩, 12) := ⟨⟨by decide +kernel, by decide +kernel⟩, List.mem_of_getElem? (i := 779) (by decide +kernel), List.mem_of_getElem? (i := 1037) (by decide +kernel), List.mem_of_getElem? (i := 1038) (by decide +kernel)⟩
theorem lw_p95 : lw_okq (⟨"RepairShopModel", "meetingOf", "()I"⟩, 12) := ⟨⟨by decide +kernel, by decide +kernel⟩, List.mem_of_getElem? (i := 779) (by decide +kernel), List.mem_of_getElem? (i := 1045) (by decide +kernel), List.mem_of_getElem? (i := 1046) (by decide +kernel)⟩
def lw_privs_6 : List (MethodName × Nat) := [(⟨"RepairShopModel", "copyStarts", "(II)I"⟩, 12), (⟨"RepairShopModel", "lateness", "(I)I"⟩, 12), (⟨"RepairShopModel", "latenessOf", "(II)I"⟩, 12), (⟨"RepairShopModel", "hasPlan", "()Z"⟩, 12), (⟨"RepairShopModel", "shiftPlan", "()V"⟩, 12), (⟨"RepairShopModel", "shifted", "(II)I"⟩, 12), (⟨"RepairShopModel", "planAnew", "(II)V"⟩, 12), (⟨"RepairShopModel", "isOperation", "(II)Z"⟩, 12), (⟨"RepairShopModel", "jobValue", "(II)I"⟩, 12), (⟨"RepairShopModel", "operationValue", "(III)I"⟩, 12), (⟨"RepairShopModel", "isHit", "(II)I"⟩, 12), (⟨"RepairShopModel", "valueOf", "(I)I"⟩, 12), (⟨"RepairShopModel", "operationMany", "()I"⟩, 12), (⟨"RepairShopModel", "greatestEnd", "()I"⟩, 12), (⟨"RepairShopModel", "hitMany", "()I"⟩, 12), (⟨"RepairShopModel", "meetingOf", "()I"⟩, 12)]
theorem lw_r6 : ∀ q ∈ lw_privs_6, lw_okq q := List.forall_mem_cons.mpr ⟨lw_p80, List.forall_mem_cons.mpr ⟨lw_p81, List.forall_mem_cons.mpr ⟨lw_p82, List.forall_mem_cons.mpr ⟨lw_p83, List.forall_mem_cons.mpr ⟨lw_p84, List.forall_mem_cons.mpr ⟨lw_p85, List.forall_mem_cons.mpr ⟨lw_p86, List.forall_mem_cons.mpr ⟨lw_p87, List.forall_mem_cons.mpr ⟨lw_p88, List.forall_mem_cons.mpr ⟨lw_p89, List.forall_mem_cons.mpr ⟨lw_p90, List.forall_mem_cons.mpr ⟨lw_p91, List.forall_mem_cons.mpr ⟨lw_p92, List.forall_mem_cons.mpr ⟨lw_p93, List.forall_mem_cons.mpr ⟨lw_p94, List.forall_mem_cons.mpr ⟨lw_p95, fun _ h => absurd h List.not_mem_nil⟩⟩⟩⟩⟩⟩⟩⟩⟩⟩⟩⟩⟩⟩⟩⟩
theorem lw_p96 : lw_okq (⟨"RepairShopModel", "aheadOf", "(II)I"⟩, 12) := ⟨⟨by decide +kernel, by decide +kernel⟩, List.mem_of_getElem? (i := 779) (by decide +kernel), List.mem_of_getElem? (i := 1053) (by decide +kernel), List.mem_of_getElem? (i := 1054) (by decide +kernel)⟩
theorem lw_p97 : lw_okq (⟨"RepairShopModel", "latenessPlanned", "(I)I"⟩, 12) := ⟨⟨by decide +kernel, by decide +kernel⟩, List.mem_of_getElem? (i := 779) (by decide +kernel), List.mem_of_getElem? (i := 1061) (by decide +kernel), List.mem_of_getElem? (i := 1062) (by decide +kernel)⟩
theorem lw_p98 : lw_okq (⟨"RepairShopModel", "latenessOfShift", "()I"⟩, 12) := ⟨⟨by decide +kernel, by decide +kernel⟩, List.mem_of_getElem? (i := 779) (by decide +kernel), List.mem_of_getElem? (i := 1073) (by decide +kernel), List.mem_of_getElem? (i := 1074) (by decide +kernel)⟩
theorem lw_p99 : lw_okq (⟨"RepairShopModel", "readsOrder", "()Z"⟩, 12) := ⟨⟨by decide +kernel, by decide +kernel⟩, List.mem_of_getElem? (i := 779) (by decide +kernel), List.mem_of_getElem? (i := 1103) (by decide +kernel), List.mem_of_getElem? (i := 1104) (by decide +kernel)⟩
theorem lw_p100 : lw_okq (⟨"RepairShopModel", "next", "()I"⟩, 12) := ⟨⟨by decide +kernel, by decide +kernel⟩, List.mem_of_getElem? (i := 779) (by decide +kernel), List.mem_of_getElem? (i := 1107) (by decide +kernel), List.mem_of_getElem? (i := 1108) (by decide +kernel)⟩
theorem lw_p101 : lw_okq (⟨"RepairShopModel", "readsJob", "()Z"⟩, 12) := ⟨⟨by decide +kernel, by decide +kernel⟩, List.mem_of_getElem? (i := 779) (by decide +kernel), List.mem_of_getElem? (i := 1111) (by decide +kernel), List.mem_of_getElem? (i := 1112) (by decide +kernel)⟩
theorem lw_p102 : lw_okq (⟨"RepairShopModel", "digit", "(II)I"⟩, 12) := ⟨⟨by decide +kernel, by decide +kernel⟩, List.mem_of_getElem? (i := 779) (by decide +kernel), List.mem_of_getElem? (i := 1115) (by decide +kernel), List.mem_of_getElem? (i := 1116) (by decide +kernel)⟩
theorem lw_p103 : lw_okq (⟨"RepairShopModel", "takes", "(I)Z"⟩, 12) := ⟨⟨by decide +kernel, by decide +kernel⟩, List.mem_of_getElem? (i := 779) (by decide +kernel), List.mem_of_getElem? (i := 1119) (by decide +kernel), List.mem_of_getElem? (i := 1120) (by decide +kernel)⟩
theorem lw_p104 : lw_okq (⟨"RepairShopModel", "number", "(III)I"⟩, 12) := ⟨⟨by decide +kernel, by decide +kernel⟩, List.mem_of_getElem? (i := 779) (by decide +kernel), List.mem_of_getElem? (i := 1123) (by decide +kernel), List.mem_of_getElem? (i := 1124) (by decide +kernel)⟩
theorem lw_p105 : lw_okq (⟨"RepairShopModel", "readsOperation", "()Z"⟩, 12) := ⟨⟨by decide +kernel, by decide +kernel⟩, List.mem_of_getElem? (i := 779) (by decide +kernel), List.mem_of_getElem? (i := 1127) (by decide +kernel), List.mem_of_getElem? (i := 1128) (by decide +kernel)⟩
theorem lw_p106 : lw_okq (⟨"RepairShopModel", "readsBreakdown", "()Z"⟩, 12) := ⟨⟨by decide +kernel, by decide +kernel⟩, List.mem_of_getElem? (i := 779) (by decide +kernel), List.mem_of_getElem? (i := 1131) (by decide +kernel), List.mem_of_getElem? (i := 1132) (by decide +kernel)⟩
theorem lw_p107 : lw_okq (⟨"RepairShopModel", "carriesOut", "()Z"⟩, 12) := ⟨⟨by decide +kernel, by decide +kernel⟩, List.mem_of_getElem? (i := 779) (by decide +kernel), List.mem_of_getElem? (i := 1135) (by decide +kernel), List.mem_of_getElem? (i := 1136) (by decide +kernel)⟩
def lw_privs_7 : List (MethodName × Nat) := [(⟨"RepairShopModel", "aheadOf", "(II)I"⟩, 12), (⟨"RepairShopModel", "latenessPlanned", "(I)I"⟩, 12), (⟨"RepairShopModel", "latenessOfShift", "()I"⟩, 12), (⟨"RepairShopModel", "readsOrder", "()Z"⟩, 12), (⟨"RepairShopModel", "next", "()I"⟩, 12), (⟨"RepairShopModel", "readsJob", "()Z"⟩, 12), (⟨"RepairShopModel", "digit", "(II)I"⟩, 12), (⟨"RepairShopModel", "takes", "(I)Z"⟩, 12), (⟨"RepairShopModel", "number", "(III)I"⟩, 12), (⟨"RepairShopModel", "readsOperation", "()Z"⟩, 12), (⟨"RepairShopModel", "readsBreakdown", "()Z"⟩, 12), (⟨"RepairShopModel", "carriesOut", "()Z"⟩, 12)]
theorem lw_r7 : ∀ q ∈ lw_privs_7, lw_okq q := List.forall_mem_cons.mpr ⟨lw_p96, List.forall_mem_cons.mpr ⟨lw_p97, List.forall_mem_cons.mpr ⟨lw_p98, List.forall_mem_cons.mpr ⟨lw_p99, List.forall_mem_cons.mpr ⟨lw_p100, List.forall_mem_cons.mpr ⟨lw_p101, List.forall_mem_cons.mpr ⟨lw_p102, List.forall_mem_cons.mpr ⟨lw_p103, List.forall_mem_cons.mpr ⟨lw_p104, List.forall_mem_cons.mpr ⟨lw_p105, List.forall_mem_cons.mpr ⟨lw_p106, List.forall_mem_cons.mpr ⟨lw_p107, fun _ h => absurd h List.not_mem_nil⟩⟩⟩⟩⟩⟩⟩⟩⟩⟩⟩⟩
def lw_privs : List (MethodName × Nat) := lw_privs_1 ++ (lw_privs_2 ++ (lw_privs_3 ++ (lw_privs_4 ++ (lw_privs_5 ++ (lw_privs_6 ++ (lw_privs_7))))))
def lw_tbl : List Cond := k2_sels lw_privs ++ tables_1
theorem lw_privs_ok : ∀ q ∈ lw_privs, lw_okq q := by
  show ∀ q ∈ lw_privs_1 ++ (lw_privs_2 ++ (lw_privs_3 ++ (lw_privs_4 ++ (lw_privs_5 ++ (lw_privs_6 ++ (lw_privs_7)))))), lw_okq q
  exact List.forall_mem_append.mpr ⟨lw_r1, List.forall_mem_append.mpr ⟨lw_r2, List.forall_mem_append.mpr ⟨lw_r3, List.forall_mem_append.mpr ⟨lw_r4, List.forall_mem_append.mpr ⟨lw_r5, List.forall_mem_append.mpr ⟨lw_r6, lw_r7⟩⟩⟩⟩⟩⟩
/-- the streams that the claim lets the run draw from -/
abbrev lw_cs : List Choice := [Jvm.Choice.named "NaN.bits"]
theorem lw_bits : nanBits ∈ lw_cs := by first | decide | exact List.mem_cons_self | simp [lw_cs, nanBits]
-- ===== end of PART A; then your names; then what follows =====
/-! ===== BEGIN words of one list among another's, by their places ===== -/
theorem goodIn_r {big : List Cond} (ws : List Cond) (ps : List Nat) (hp : ws = ps.filterMap (fun i => big[i]?)) (h : ws.all goodWord = true) : GoodIn big ws := by
  intro w hw
  have h1 := List.all_eq_true.mp h w hw
  rw [hp] at hw
  obtain ⟨i, -, hi⟩ := List.mem_filterMap.mp hw
  have hm : w ∈ big := by first | exact List.mem_of_getElem? hi | exact List.getElem?_mem hi
  exact ⟨hm, good_of_word h1⟩
theorem goodIn_app {big a b : List Cond} (ha : GoodIn big a) (hb : GoodIn big b) : GoodIn big (a ++ b) := fun w h => (List.mem_append.mp h).elim (ha w) (hb w)
theorem goodIn_ca {big a b : List Cond} {c : Cond} (ha : GoodIn big (c :: a)) (hb : GoodIn big b) : GoodIn big (c :: (a ++ b)) := fun w h => (List.mem_cons.mp h).elim (fun e => ha w (List.mem_cons.mpr (Or.inl e))) (fun h => (List.mem_append.mp h).elim (fun h => ha w (List.mem_cons.mpr (Or.inr h))) (hb w))
theorem goodIn_sub {big ws : List Cond} (hm : ∀ w ∈ ws, w ∈ big) (h : ws.all goodWord = true) : GoodIn big ws := fun w hw => ⟨hm w hw, good_of_word (List.all_eq_true.mp h w hw)⟩
/-! ===== END ===== -/

/-! ===== BEGIN exceptions that leave a method, and their catching by the caller (launches without stack traces) ===== -/
section VXA
/-! The laws vx_back, vx_callV, vx_callS, vx_callSW, vx_throw0, vx_throwS follow proofs of the library, with one case more: JvmDerived/Free/Laws.lean (Back.of_free), Shelf42/LK1.lean (callV, callS), Shelf/KitTraced.lean (throwNew0V, throwNewS). -/
/-- where a method has thrown q: the class by its name, the cell, what was written, the world -/
def vx_T (XC : String → State → State → Prop) (st : State) (q : Addr) (t : State) (mc ms : Nat) (free : Addr → Prop) : Prop :=
  ∃ (E : String) (ce : Cell) (L : List Loc), XC E st t ∧ t.heap[q]? = some ce ∧ ce.vm = .none ∧ st.vm.findClass E = some ce.cls ∧ st.WarmedH t.vm ∧ st.sameButNew ({ t with vm := st.vm } : State) L mc ms ∧ ∀ z ∈ L, free z.base
def vx_Q (Qc : Array Value → State → Outcome → State → Prop) (XC : String → State → State → Prop) (mc ms : Nat) (free : Addr → Prop) : Array Value → State → Outcome → State → Prop := fun a st o t =>
  (Qc a st o t ∧ ∃ L, FrameEnd st o t L mc ms ∧ ∀ q ∈ L, free q.base) ∨ ∃ q, o = .threw q ∧ vx_T XC st q t mc ms free
/-- a callee that returns or throws -/
def vx_Met (l : Launch) (y : MethodName) (ws : List Cond) (rm : Room) (Pc : Array Value → State → Prop) (Qc : Array Value → State → Outcome → State → Prop) (XC : String → State → State → Prop) (mc ms : Nat) (free : Addr → Prop) : Prop :=
  MetFree l y (headSpec ws rm) Pc (fun _ _ _ _ _ => True) (vx_Q Qc XC mc ms free)
def vx_Post (XC : String → State → State → Prop) (mc ms : Nat) (free : Addr → Prop) : Pt → Array Value → Addr → Pt → Prop := fun A a q B =>
  ∃ (g : JFrame) (mk : MethodId) (t : State) (L : List Loc) (E : String) (ce : Cell), B.U.heap = t.heap ∧ B.U.vm = t.vm ∧ XC E (A.U.calling g mk a) t ∧ t.heap[q]? = some ce ∧ ce.vm = .none ∧ A.U.vm.findClass E = some ce.cls ∧ B.locs = A.locs ++ L ∧ (∀ z ∈ L, free z.base) ∧ B.cells = A.cells + mc ∧ B.slots = A.slots + ms
def vx_Back (l : Launch) (R : Room) (p : Program) (e : Env) (below : List Frame) (s : State) (sargs : Array Value) (y : MethodName) (len W9 : Nat)
    (Pre : Pt → Array Value → Prop) (Post : Pt → Array Value → Option Value → Pt → Prop) (PostX : Pt → Array Value → Addr → Pt → Prop) : Prop :=
  ∀ (m : MethodId) (meth : Method) (c : Code) (A : Pt) (g : JFrame) (ig : Instr) (mk : MethodId) (a : Array Value),
    Stand p l e R s m sargs below meth c A.U A.locs A.cells A.slots → g.method = m → g.locals.size = c.maxLocals → decode c.code g.pc = .ok (ig, len) →
    2 * g.monitorRoom + (g.stack.map fun v => v.category).sum ≤ W9 → A.U.methodNamed? y = some mk → Pre A a →
    (∃ (v : Option Value) (B : Pt), Stand p l e R s m sargs below meth c B.U B.locs B.cells B.slots ∧ Post A a v B ∧
      Steps p.tables e below (doInvoke e (A.U.setTop g) [] mk a).1 (B.U.setTop { g with pc := g.pc + len, stack := v.toList ++ g.stack })) ∨
    (∃ (q : Addr) (B : Pt), Stand p l e R s m sargs below meth c B.U B.locs B.cells B.slots ∧ PostX A a q B ∧
      Steps p.tables e below (doInvoke e (A.U.setTop g) [] mk a).1 ((B.U.setTop g).pushFrame (.throwing q)))
section Payer
variable {l : Launch} {R : Room} {p : Program} {e : Env} {below : List Frame} {s : State} {sargs : Array Value} {y : MethodName} {len W9 : Nat}
theorem vx_back {ws : List Cond} {rm : Room} {Pc : Array Value → State → Prop} {Qc : Array Value → State → Outcome → State → Prop} {XC : String → State → State → Prop} {mc ms : Nat} {free : Addr → Prop} {bytes : ByteArray} {maxL : Nat} {ret : Option FieldType}
    (hM : vx_Met l y ws rm Pc Qc XC mc ms free) (hblind : FrameBlind Pc) (hrc : rm.cells = mc) (hrs : rm.slots = ms)
    (hframes : rm.frames + 1 ≤ R.frames) (hlocals : W9 + (maxL + 11) + rm.locals ≤ R.locals)
    (hws : ∀ w ∈ ws, ∀ a' U, s.WarmedH U.vm → w.before a' U = true) (hcode : Cond.code y bytes maxL ret ∈ ws) (hinit : ∀ a' U, s.WarmedH U.vm → (Cond.initialized y.cls).before a' U = true) :
    vx_Back l R p e below s sargs y len W9 (PreOf R mc ms Pc) (PostOf Qc mc ms free) (vx_Post XC mc ms free) := by
  intro m meth c A g ig mk a X hg hsize hdg hW hn hp
  have h1 : (headSpec ws rm).pre.before a A.U = true := atoms_intro fun w hw => hws w hw _ _ X.warmed
  have h2 : (Cond.code y bytes maxL ret).before a A.U = true := hws _ hcode _ _ X.warmed
  have h3 : (Cond.initialized y.cls).before a A.U = true := hinit _ _ X.warmed
  have h4 : A.cells + (headSpec ws rm).room.cells ≤ R.cells := by rw [show (headSpec ws rm).room.cells = mc from hrc]; exact hp.1
  have h5 : A.slots + (headSpec ws rm).room.slots ≤ R.slots := by rw [show (headSpec ws rm).room.slots = ms from hrs]; exact hp.2.1
  have hPc : Pc a (A.U.calling g mk a) := hblind _ _ _ _ hp.2.2
  obtain ⟨U, Ls, c0, s0⟩ := A
  dsimp only [Pt.U, Pt.locs, Pt.cells, Pt.slots] at h1 h2 h3 h4 h5 X hn hPc ⊢
  obtain ⟨methY, cY, hmY, hcY, -, hlY, -, -, -, -⟩ := Cond.code_spec hn h2
  obtain ⟨kY, hkY, -⟩ := className_of_methodNamed hn
  have hinitY : kY.init = .initialized := Cond.initialized_spec (findClass_of_methodNamed hn) hkY h3
  have h : At U g.method c below := by rw [hg]; exact X.here
  have hlocals9 : W9 + (maxL + 11) + (headSpec ws rm).room.locals ≤ R.locals := hlocals
  have happ : (headSpec ws rm).appliesLoose y e.platform (U.calling g mk a) = true :=
    Spec.appliesLoose_calling (g := g) h hdg hn hkY hinitY
      (X.room_calling (g := g) (R' := (headSpec ws rm).room) hsize hmY hcY hframes (by rw [hlY]; omega) h4 h5) h1
  obtain ⟨mid, hmid⟩ := h.above
  have hfr : (U.setTop g).frames = (.java g :: mid) ++ below := by rw [State.frames_setTop' g h.top, hmid]; rfl
  obtain ⟨o, s₂, hsteps, -, hend, hq⟩ := Steps.callFree hM p X.admits X.cas X.clock (acts := []) hfr happ hPc trivial
  have hq' : vx_Q Qc XC mc ms free a (U.calling g mk a) o s₂ := hq
  rw [State.frames_setTop' g h.top] at hend
  obtain ⟨g₀, hg0⟩ := Option.isSome_iff_exists.mp h.top
  obtain ⟨r, hr⟩ := State.topJava?_eq_some.mp hg0
  have hr' : (({ U with heap := s₂.heap, slotsUsed := s₂.slotsUsed } : State).setVm s₂.vm).frames = .java g₀ :: r := hr
  rcases hq' with ⟨hqc, L, hfe, hL⟩ | ⟨q, rfl, E, ce, L, hx, hce, hcv, hcl, hW₂, hsm, hL⟩
  · obtain ⟨⟨v, rfl⟩, hW₂, e2, q2, q3, q4, q5, q6⟩ := id hfe
    have e3 : s₂ = ({ (U.calling g mk a).setFrames s₂.frames with heap := s₂.heap, slotsUsed := s₂.slotsUsed } : State).setVm s₂.vm := by
      have : s₂ = ({ s₂ with vm := (U.calling g mk a).vm } : State).setVm s₂.vm := rfl
      rw [e2] at this
      exact this
    obtain ⟨c₂, i₂, len₂, hc₂, hd₂, hf₂⟩ := hend
    have hW' : U.WarmedH s₂.vm := hW₂
    have hcc : c₂ = c := by
      have h1 : s₂.code? g.method = U.code? g.method := by
        rw [State.code?_eq, State.code?_eq, hW'.alike.method?]
      exact Option.some.inj (hc₂.symm.trans (h1.trans h.code))
    subst hcc
    have hlen : len₂ = len := by rw [hdg] at hd₂; cases hd₂; rfl
    subst hlen
    have hs₂ : s₂ = (({ U with heap := s₂.heap, slotsUsed := s₂.slotsUsed } : State).setVm s₂.vm).setTop { g with pc := g.pc + len₂, stack := v.toList ++ g.stack } := by
      refine e3.trans ?_
      rw [hf₂, State.calling_eq h.top, State.setFrames_setFrames, State.setTop_of_frames _ hr', hr]
      rfl
    have hsame : U.sameButNew ({ U with heap := s₂.heap, slotsUsed := s₂.slotsUsed } : State) L mc ms := by
      refine ⟨?_, q2, q3, q4, q5, q6⟩
      obtain ⟨t, ht, -⟩ := State.frames_cons hr
      show ({ U with heap := s₂.heap, slotsUsed := s₂.slotsUsed } : State) = { U.setFrames U.frames with heap := s₂.heap, slotsUsed := s₂.slotsUsed }
      rw [State.setFrames_self ht]
    subst hg
    refine Or.inl ⟨v, ⟨(({ U with heap := s₂.heap, slotsUsed := s₂.slotsUsed } : State).setVm s₂.vm), Ls ++ L, c0 + mc, s0 + ms⟩,
      ⟨X.admits, X.cas, X.clock, X.frames, X.room, X.hears, X.method, X.code, (X.here.setHeapUsed s₂.heap s₂.slotsUsed).setVm hW'.alike, X.tail, State.WarmedH.trans X.warmed hW', X.limits, X.bytes, X.same.trans (hsame.setVm s.vm)⟩,
      ⟨g, mk, s₂, L, rfl, rfl, hqc, rfl, hL, rfl, rfl⟩, ?_⟩
    show Steps p.tables e below _ ((({ U with heap := s₂.heap, slotsUsed := s₂.slotsUsed } : State).setVm s₂.vm).setTop { g with pc := g.pc + len₂, stack := v.toList ++ g.stack })
    rw [← hs₂]
    exact hsteps
  · obtain ⟨e2, q2, q3, q4, q5, q6⟩ := id hsm
    have e3 : s₂ = ({ (U.calling g mk a).setFrames s₂.frames with heap := s₂.heap, slotsUsed := s₂.slotsUsed } : State).setVm s₂.vm := by
      have : s₂ = ({ s₂ with vm := (U.calling g mk a).vm } : State).setVm s₂.vm := rfl
      rw [e2] at this
      exact this
    have hf₂ : s₂.frames = .throwing q :: .java g :: U.frames.tail := hend
    have hW' : U.WarmedH s₂.vm := hW₂
    have hs₂ : s₂ = ((({ U with heap := s₂.heap, slotsUsed := s₂.slotsUsed } : State).setVm s₂.vm).setTop g).pushFrame (.throwing q) := by
      refine e3.trans ?_
      rw [hf₂, State.calling_eq h.top, State.setFrames_setFrames, State.pushFrame, State.frames_setTop _ hr', State.setTop_of_frames _ hr', State.setFrames_setFrames, hr]
      rfl
    have hsame : U.sameButNew ({ U with heap := s₂.heap, slotsUsed := s₂.slotsUsed } : State) L mc ms := by
      refine ⟨?_, q2, q3, q4, q5, q6⟩
      obtain ⟨t, ht, -⟩ := State.frames_cons hr
      show ({ U with heap := s₂.heap, slotsUsed := s₂.slotsUsed } : State) = { U.setFrames U.frames with heap := s₂.heap, slotsUsed := s₂.slotsUsed }
      rw [State.setFrames_self ht]
    subst hg
    refine Or.inr ⟨q, ⟨(({ U with heap := s₂.heap, slotsUsed := s₂.slotsUsed } : State).setVm s₂.vm), Ls ++ L, c0 + mc, s0 + ms⟩,
      ⟨X.admits, X.cas, X.clock, X.frames, X.room, X.hears, X.method, X.code, (X.here.setHeapUsed s₂.heap s₂.slotsUsed).setVm hW'.alike, X.tail, State.WarmedH.trans X.warmed hW', X.limits, X.bytes, X.same.trans (hsame.setVm s.vm)⟩,
      ⟨g, mk, s₂, L, E, ce, rfl, rfl, hx, hce, hcv, hcl, rfl, hL, rfl, rfl⟩, ?_⟩
    show Steps p.tables e below _ (((({ U with heap := s₂.heap, slotsUsed := s₂.slotsUsed } : State).setVm s₂.vm).setTop g).pushFrame (.throwing q))
    rw [← hs₂]
    exact hsteps
end Payer
section Calls
variable {p : Program} {l : Launch} {e : Env} {R : Room} {s : State} {m : MethodId} {args : Array Value} {below : List Frame} {meth : Method} {c : Code} {T : State} {locs : List Loc} {cells slots : Nat}
theorem vx_callV (X : Stand p l e R s m args below meth c T locs cells slots) (hexec : p.tables.exec = Jvm.exec) {own C : String} {index : Nat} {y : MethodName} {bytes : ByteArray} {maxL : Nat} {ret : Option FieldType}
    (hown : s.vm.findClass own = some m.cls) (hlink : (Cond.methodLink own index y).before args s = true) (hinst : (Cond.instanceMethod y).before args s = true) (hsel : (Cond.selects C y y).before args s = true)
    (hcode : (Cond.code y bytes maxL ret).before args s = true) (hy : y.cls ≠ "java/lang/invoke/MethodHandle" ∧ y.cls ≠ "java/lang/invoke/VarHandle")
    {W9 : Nat} {Pre : Pt → Array Value → Prop} {Post : Pt → Array Value → Option Value → Pt → Prop} {PostX : Pt → Array Value → Addr → Pt → Prop} (hK : vx_Back l R p e below s args y 3 W9 Pre Post PostX)
    {b : Addr} {cellB : Cell} (hcell : T.heap[b]? = some cellB) (hobj : cellB.vm.isStatics = false) (hcls : s.vm.findClass C = some cellB.cls)
    {g : JFrame} (hg : g.method = m) (hsize : g.locals.size = c.maxLocals) {argsL rest : List Value} (hlen : ∀ sig, parseMethodDescriptor y.desc = some sig → argsL.length = sig.parameters.length)
    (hstack : g.stack = argsL.reverse ++ .ref b :: rest) (hW : 2 * g.monitorRoom + (rest.map fun v => v.category).sum ≤ W9) (hdg : decode c.code g.pc = .ok (.invokevirtual index, 3))
    (hpre : ∀ vm₁, s.WarmedH vm₁ → Pre ⟨T.setVm vm₁, locs, cells, slots⟩ (Value.ref b :: argsL).toArray) :
    (∃ (v : Option Value) (vm₁ : Vm) (B : Pt), s.WarmedH vm₁ ∧ Stand p l e R s m args below meth c B.U B.locs B.cells B.slots ∧ Post ⟨T.setVm vm₁, locs, cells, slots⟩ (Value.ref b :: argsL).toArray v B ∧
      ∀ target, Steps p.tables e below (B.U.setTop { g with pc := g.pc + 3, stack := v.toList ++ rest }) target → Steps p.tables e below (T.setTop g) target) ∨
    (∃ (q : Addr) (vm₁ : Vm) (B : Pt), s.WarmedH vm₁ ∧ Stand p l e R s m args below meth c B.U B.locs B.cells B.slots ∧ PostX ⟨T.setVm vm₁, locs, cells, slots⟩ (Value.ref b :: argsL).toArray q B ∧
      Steps p.tables e below (T.setTop g) ((B.U.setTop { g with stack := rest }).pushFrame (.throwing q))) := by
  obtain ⟨mk, methM, hnamed, hmethM, hstM, habM⟩ := Cond.instanceMethod_spec hinst
  obtain ⟨methM', cM, hmethM', -, -, -, -, -, -, hsigM⟩ := Cond.code_spec hnamed hcode
  cases hmethM.symm.trans hmethM'
  obtain ⟨c2, r2, m2, q1, q2, q3, q4, kP, hkP, hkPi⟩ := Cond.selects_spec hsel
  cases hcls.symm.trans q1
  cases (State.methodFound?_of_named hnamed hy).symm.trans q2
  cases hnamed.symm.trans q3
  have hselP : selectMethod e.platform s.vm cellB.cls mk = .method mk := by rw [Launch.admits_selectMethod X.admits]; exact q4
  obtain ⟨vm₁, X₁, hstep₁⟩ := X.invokevirtual hexec hown hlink hnamed hmethM hstM hkP hkPi hy (a := b) (cell := cellB) hcell
    (fun z h => by rw [h] at hobj; cases hobj) hselP hmethM habM hkP hkPi (g := g) hg (argsL := argsL) (rest := rest) (hlen _ hsigM) hstack hdg
  rcases hK m meth c ⟨T.setVm vm₁, locs, cells, slots⟩ { g with stack := rest } (.invokevirtual index) mk (Value.ref b :: argsL).toArray X₁ hg hsize hdg hW (X₁.named hnamed) (hpre vm₁ X₁.warmed) with ⟨v, B, X', hpost, hsteps⟩ | ⟨q, B, X', hpost, hsteps⟩
  · exact Or.inl ⟨v, vm₁, B, X₁.warmed, X', hpost, fun target h => hstep₁ _ fun acts => by rw [doInvoke_state]; exact hsteps.trans h⟩
  · exact Or.inr ⟨q, vm₁, B, X₁.warmed, X', hpost, hstep₁ _ fun acts => by rw [doInvoke_state]; exact hsteps⟩
theorem vx_callS (X : Stand p l e R s m args below meth c T locs cells slots) (hexec : p.tables.exec = Jvm.exec) {own : String} {index : Nat} {y : MethodName} {bytes : ByteArray} {maxL : Nat} {ret : Option FieldType}
    (hown : s.vm.findClass own = some m.cls) (hlink : (Cond.methodLink own index y).before args s = true) (hstat : (Cond.static y).before args s = true) (hinit : (Cond.initialized y.cls).before args s = true)
    (hcode : (Cond.code y bytes maxL ret).before args s = true) (hy : y.cls ≠ "java/lang/invoke/MethodHandle" ∧ y.cls ≠ "java/lang/invoke/VarHandle")
    {W9 : Nat} {Pre : Pt → Array Value → Prop} {Post : Pt → Array Value → Option Value → Pt → Prop} {PostX : Pt → Array Value → Addr → Pt → Prop} (hK : vx_Back l R p e below s args y 3 W9 Pre Post PostX)
    {g : JFrame} (hg : g.method = m) (hsize : g.locals.size = c.maxLocals) {argsL rest : List Value} (hlen : ∀ sig, parseMethodDescriptor y.desc = some sig → argsL.length = sig.parameters.length)
    (hstack : g.stack = argsL.reverse ++ rest) (hW : 2 * g.monitorRoom + (rest.map fun v => v.category).sum ≤ W9) (hdg : decode c.code g.pc = .ok (.invokestatic index, 3))
    (hpre : ∀ vm₁, s.WarmedH vm₁ → Pre ⟨T.setVm vm₁, locs, cells, slots⟩ argsL.toArray) :
    (∃ (v : Option Value) (vm₁ : Vm) (B : Pt), s.WarmedH vm₁ ∧ Stand p l e R s m args below meth c B.U B.locs B.cells B.slots ∧ Post ⟨T.setVm vm₁, locs, cells, slots⟩ argsL.toArray v B ∧
      ∀ target, Steps p.tables e below (B.U.setTop { g with pc := g.pc + 3, stack := v.toList ++ rest }) target → Steps p.tables e below (T.setTop g) target) ∨
    (∃ (q : Addr) (vm₁ : Vm) (B : Pt), s.WarmedH vm₁ ∧ Stand p l e R s m args below meth c B.U B.locs B.cells B.slots ∧ PostX ⟨T.setVm vm₁, locs, cells, slots⟩ argsL.toArray q B ∧
      Steps p.tables e below (T.setTop g) ((B.U.setTop { g with stack := rest }).pushFrame (.throwing q))) := by
  obtain ⟨mk, hnamed⟩ := Cond.code_named hcode
  obtain ⟨methM, cM, hmethM, -, -, -, -, -, -, hsigM⟩ := Cond.code_spec hnamed hcode
  have hstatic : methM.isStatic = true := Cond.static_spec hnamed hmethM hstat
  obtain ⟨kP, hkP, -⟩ := className_of_methodNamed hnamed
  have hinitP : kP.init = .initialized := Cond.initialized_spec (findClass_of_methodNamed hnamed) hkP hinit
  obtain ⟨vm₁, X₁, hstep₁⟩ := X.invokestatic hexec hown hlink hnamed hmethM hstatic hkP hinitP hy (g := g) hg (argsL := argsL) (rest := rest) (hlen _ hsigM) hstack hdg
  rcases hK m meth c ⟨T.setVm vm₁, locs, cells, slots⟩ { g with stack := rest } (.invokestatic index) mk argsL.toArray X₁ hg hsize hdg hW (X₁.named hnamed) (hpre vm₁ X₁.warmed) with ⟨v, B, X', hpost, hsteps⟩ | ⟨q, B, X', hpost, hsteps⟩
  · exact Or.inl ⟨v, vm₁, B, X₁.warmed, X', hpost, fun target h => hstep₁ _ fun acts => by rw [doInvoke_state]; exact hsteps.trans h⟩
  · exact Or.inr ⟨q, vm₁, B, X₁.warmed, X', hpost, hstep₁ _ fun acts => by rw [doInvoke_state]; exact hsteps⟩
end Calls
theorem vx_cls {s : State} {T : State} {vm₁ : Vm} {E : String} {k : ClassId} (hW : s.WarmedH vm₁) (h : (T.setVm vm₁).vm.findClass E = some k) : s.vm.findClass E = some k := by
  have h1 : vm₁.findClass E = some k := h
  rw [hW.alike.findClass] at h1
  exact h1
/-- the method's frame g, with q thrown over it -/
def vx_W (p : Program) (l : Launch) (e : Env) (R : Room) (s : State) (m : MethodId) (args : Array Value) (below : List Frame) (meth : Method) (c : Code) (H : Heap) (locs : List Loc) (cells slots : Nat) (Q : State → Prop) (g : JFrame) (q : Addr) : Prop :=
  ∀ T : State, T.heap = H → Stand p l e R s m args below meth c T locs cells slots → ∃ t, Steps p.tables e below ((T.setTop g).pushFrame (.throwing q)) t ∧ Q t
def vx_Run (p : Program) (l : Launch) (e : Env) (R : Room) (s : State) (m : MethodId) (args : Array Value) (below : List Frame) (meth : Method) (c : Code) (H : Heap) (locs : List Loc) (cells slots mc ms : Nat) (g : JFrame) (rest : List Value) (Qa : State → Outcome → State → Prop) (XC : String → State → State → Prop) (free : Addr → Prop) : Prop :=
  ∀ T : State, T.heap = H → Stand p l e R s m args below meth c T locs cells slots →
    (∃ (v : Option Value) (st₀ t T' : State) (L : List Loc), st₀.heap = H ∧ Stand p l e R s m args below meth c T' (locs ++ L) (cells + mc) (slots + ms) ∧ (∀ q ∈ L, free q.base) ∧ T'.heap = t.heap ∧ T'.vm = t.vm ∧ Qa st₀ (.returned v) t ∧
      Goes p e below T g T' { g with pc := g.pc + 3, stack := v.toList ++ rest }) ∨
    (∃ (q : Addr) (st₀ t T' : State) (L : List Loc) (E : String) (ce : Cell), st₀.heap = H ∧ Stand p l e R s m args below meth c T' (locs ++ L) (cells + mc) (slots + ms) ∧ (∀ z ∈ L, free z.base) ∧ T'.heap = t.heap ∧ T'.vm = t.vm ∧ XC E st₀ t ∧ t.heap[q]? = some ce ∧ ce.vm = .none ∧ s.vm.findClass E = some ce.cls ∧
      Steps p.tables e below (T.setTop g) ((T'.setTop { g with stack := rest }).pushFrame (.throwing q)))
def vx_X {S : Type} (px : S → Prop) (B : String → S → State → Prop) (A : Nat → Prop) : String → State → State → Prop := fun E st t => ∃ u : S, px u ∧ B E u t ∧ va_F A st t
section Runs
variable {p : Program} {l : Launch} {e : Env} {R : Room} {s : State} {m : MethodId} {args : Array Value} {below : List Frame} {meth : Method} {c : Code} {H : Heap} {locs : List Loc} {cells slots : Nat}
variable {y : MethodName} {bytes cc : ByteArray} {maxL nL mc ms n index : Nat} {ret : Option FieldType} {ws : List Cond} {rm : Room} {Pc : Array Value → State → Prop} {Qc : Array Value → State → Outcome → State → Prop} {XC : String → State → State → Prop} {free : Addr → Prop} {Ts : List Cond} {own C : String} {b : Addr} {As rest : List Value} {g : JFrame}
theorem vx_callBack (cb : CallB R s args own index y bytes maxL ret ws rm mc ms n) (hM : vx_Met l y ws rm Pc Qc XC mc ms free) (hbl : FrameBlind Pc) : vx_Back l R p e below s args y 3 8 (PreOf R mc ms Pc) (PostOf Qc mc ms free) (vx_Post XC mc ms free) := by
  obtain ⟨hrc, hrs, hfr, hlo, hws, hcw, -, hini, -⟩ := cb
  exact vx_back (bytes := bytes) (maxL := maxL) (ret := ret) hM hbl hrc hrs hfr hlo hws hcw (fun a' U hW => word_at hW (Or.inl (by first | rfl | simp [Cond.onTables, Cond.keeps, Cond.steady])) hini)
theorem vx_runV (S : CallFix p m c cc nL s args Ts own) (hM : vx_Met l y ws rm Pc Qc XC mc ms free) (cw : CallW R s args own C index y bytes maxL ret ws rm mc ms n) (hp : PreV s H C b Pc As)
    (hg : g.method = m) (hn : As.length = n) (hsize : g.locals.size = nL) (hstack : g.stack = As.reverse ++ .ref b :: rest) (hW : 2 * g.monitorRoom + (rest.map fun v => v.category).sum ≤ 8) (hdg : decode cc g.pc = .ok (.invokevirtual index, 3)) (hf : cells + mc ≤ R.cells ∧ slots + ms ≤ R.slots) :
    vx_Run p l e R s m args below meth c H locs cells slots mc ms g rest (Qc (Value.ref b :: As).toArray) XC free := by
  have hK : vx_Back l R p e below s args y 3 8 (PreOf R mc ms Pc) (PostOf Qc mc ms free) (vx_Post XC mc ms free) := vx_callBack cw.1 hM hp.1
  obtain ⟨⟨-, -, -, -, -, -, hcode, -, hy, hlen, hl⟩, hin, hse⟩ := cw
  obtain ⟨hx, hb, hml, ho, -⟩ := S
  obtain ⟨-, ⟨cellB, hcB, hoB, hclB⟩, hPc⟩ := hp
  intro T hT X
  rcases vx_callV X hx (C := C) (bytes := bytes) (maxL := maxL) (ret := ret) ho hl hin hse hcode hy hK (by rw [hT]; exact hcB) hoB hclB hg (hsize.trans hml.symm) (argsL := As) (rest := rest) (fun sig h => hn.trans (hlen sig h)) hstack hW (by rw [hb]; exact hdg)
    (fun vm₁ hW₁ => ⟨hf.1, hf.2, hPc (T.setVm vm₁) hT hW₁⟩) with ⟨v, vm₁, ⟨U', l2, c2, s2⟩, hW₁, X', ⟨g', mk, t, L, e1, e2, hq, h1, hL, h2, h3⟩, st⟩ | ⟨q, vm₁, ⟨U', l2, c2, s2⟩, hW₁, X', ⟨g', mk, t, L, E, ce, e1, e2, hq, hce, hcv, hcl, h1, hL, h2, h3⟩, st⟩
  · dsimp only [Pt.U, Pt.locs, Pt.cells, Pt.slots] at X' e1 e2 h1 h2 h3 st
    subst h1; subst h2; subst h3
    exact Or.inl ⟨v, (T.setVm vm₁).calling g' mk (Value.ref b :: As).toArray, t, U', L, hT, X', hL, e1, e2, hq, st⟩
  · dsimp only [Pt.U, Pt.locs, Pt.cells, Pt.slots] at X' e1 e2 h1 h2 h3 st hcl
    subst h1; subst h2; subst h3
    exact Or.inr ⟨q, (T.setVm vm₁).calling g' mk (Value.ref b :: As).toArray, t, U', L, E, ce, hT, X', hL, e1, e2, hq, hce, hcv, vx_cls hW₁ hcl, st⟩
theorem vx_runS (S : CallFix p m c cc nL s args Ts own) (hM : vx_Met l y ws rm Pc Qc XC mc ms free) (cw : CallB R s args own index y bytes maxL ret ws rm mc ms n ∧ (Cond.static y).before args s = true) (hp : PreS s H Pc As)
    (hg : g.method = m) (hn : As.length = n) (hsize : g.locals.size = nL) (hstack : g.stack = As.reverse ++ rest) (hW : 2 * g.monitorRoom + (rest.map fun v => v.category).sum ≤ 8) (hdg : decode cc g.pc = .ok (.invokestatic index, 3)) (hf : cells + mc ≤ R.cells ∧ slots + ms ≤ R.slots) :
    vx_Run p l e R s m args below meth c H locs cells slots mc ms g rest (Qc As.toArray) XC free := by
  have hK : vx_Back l R p e below s args y 3 8 (PreOf R mc ms Pc) (PostOf Qc mc ms free) (vx_Post XC mc ms free) := vx_callBack cw.1 hM hp.1
  obtain ⟨⟨-, -, -, -, -, -, hcode, hini, hy, hlen, hl⟩, hstt⟩ := cw
  obtain ⟨hx, hb, hml, ho, -⟩ := S
  intro T hT X
  rcases vx_callS X hx (bytes := bytes) (maxL := maxL) (ret := ret) ho hl hstt hini hcode hy hK hg (hsize.trans hml.symm) (argsL := As) (rest := rest) (fun sig h => hn.trans (hlen sig h)) hstack hW (by rw [hb]; exact hdg)
    (fun vm₁ hW₁ => ⟨hf.1, hf.2, hp.2 (T.setVm vm₁) hT hW₁⟩) with ⟨v, vm₁, ⟨U', l2, c2, s2⟩, hW₁, X', ⟨g', mk, t, L, e1, e2, hq, h1, hL, h2, h3⟩, st⟩ | ⟨q, vm₁, ⟨U', l2, c2, s2⟩, hW₁, X', ⟨g', mk, t, L, E, ce, e1, e2, hq, hce, hcv, hcl, h1, hL, h2, h3⟩, st⟩
  · dsimp only [Pt.U, Pt.locs, Pt.cells, Pt.slots] at X' e1 e2 h1 h2 h3 st
    subst h1; subst h2; subst h3
    exact Or.inl ⟨v, (T.setVm vm₁).calling g' mk As.toArray, t, U', L, hT, X', hL, e1, e2, hq, st⟩
  · dsimp only [Pt.U, Pt.locs, Pt.cells, Pt.slots] at X' e1 e2 h1 h2 h3 st hcl
    subst h1; subst h2; subst h3
    exact Or.inr ⟨q, (T.setVm vm₁).calling g' mk As.toArray, t, U', L, E, ce, hT, X', hL, e1, e2, hq, hce, hcv, vx_cls hW₁ hcl, st⟩
end Runs
section Rows
variable {p : Program} {l : Launch} {e : Env} {R : Room} {s : State} {m : MethodId} {args : Array Value} {below : List Frame} {meth : Method} {c : Code} {H : Heap} {locs : List Loc} {cells slots : Nat} {Q : State → Prop}
variable {mc ms : Nat} {free : Addr → Prop} {A0 A1 : Nat → Prop} {H0 : Heap} {a : Array Value} {pc : Nat} {ls : Array Slot} {st0 rest : List Value}
theorem vx_keep {st₀ t T' : State} {L : List Loc} (h0 : st₀.heap = H) (e1 : T'.heap = t.heap) (hS : va_S A0 H0 H locs) (hA : ∀ q, q < H.size → A1 q → A0 q) (hf : ∀ q, free q → A0 q) (hL : ∀ q ∈ L, free q.base) (hF : va_F A1 st₀ t) :
    H.size ≤ T'.heap.size ∧ (∀ q : Nat, q < H.size → ¬ A1 q → T'.heap[q]? = H[q]?) ∧ va_S A0 H0 T'.heap (locs ++ L) := by
  obtain ⟨hz, hk⟩ := hF
  rw [h0] at hz hk
  exact ⟨by rw [e1]; exact hz, fun q h1 h2 => by rw [e1]; exact hk q h1 h2,
    ⟨Nat.le_trans hS.1 (by rw [e1]; exact hz), fun q h1 h2 => by rw [e1, hk q (Nat.lt_of_lt_of_le h1 hS.1) (fun z => h2 (hA q (Nat.lt_of_lt_of_le h1 hS.1) z))]; exact hS.2.1 q h1 h2, fun q hq => by
      rcases List.mem_append.mp hq with h | h
      · exact hS.2.2 q h
      · exact hf _ (hL q h)⟩⟩
theorem vx_calli {S SX : Type} {post : Int32 → S → Prop} {px : SX → Prop} {B : S → State → Prop} {BX : String → SX → State → Prop} {AX : Nat → Prop} (hr : vx_Run p l e R s m args below meth c H locs cells slots mc ms (F0 m pc ls st0) rest (va_Qi post B A1 a) (vx_X px BX AX) free) (hS : va_S A0 H0 H locs) (hA : ∀ q, q < H.size → A1 q → A0 q) (hf : ∀ q, free q → A0 q) (hAX : ∀ q, q < H.size → AX q → A0 q)
    (kx : ∀ (E : String) (ce : Cell) (q9 : Addr) (u : SX) (t : State) (H1 : Heap) (locs1 : List Loc), t.heap = H1 → s.vm.Alike t.vm → px u → BX E u t → H.size ≤ H1.size → (∀ q : Nat, q < H.size → ¬ AX q → H1[q]? = H[q]?) → va_S A0 H0 H1 locs1 → H1[q9]? = some ce → ce.vm = .none → s.vm.findClass E = some ce.cls → vx_W p l e R s m args below meth c H1 locs1 (cells + mc) (slots + ms) Q (F0 m pc ls rest) q9)
    (kk : ∀ (r : Int32) (u : S) (t : State) (H1 : Heap) (locs1 : List Loc), t.heap = H1 → s.vm.Alike t.vm → post r u → B u t → H.size ≤ H1.size → (∀ q : Nat, q < H.size → ¬ A1 q → H1[q]? = H[q]?) → va_S A0 H0 H1 locs1 → W p l e R s m args below meth c H1 locs1 (cells + mc) (slots + ms) Q (F0 m (pc + 3) ls (.int r :: rest))) : W p l e R s m args below meth c H locs cells slots Q (F0 m pc ls st0) := by
  intro T hT X
  rcases hr T hT X with ⟨v, st₀, t, T', L, h0, X', hL, e1, e2, ⟨⟨r, u, hv, hp, hb⟩, hF⟩, st⟩ | ⟨q, st₀, t, T', L, E, ce, h0, X', hL, e1, e2, ⟨u, hp, hb, hF⟩, hce, hcv, hcl, st⟩
  · cases hv
    obtain ⟨k1, k2, k3⟩ := vx_keep h0 e1 hS hA hf hL hF
    obtain ⟨t2, a1, b1⟩ := kk r u t T'.heap (locs ++ L) e1.symm (by rw [← e2]; exact X'.warmed.alike) hp hb k1 k2 k3 T' rfl X'
    exact ⟨t2, st t2 a1, b1⟩
  · obtain ⟨k1, k2, k3⟩ := vx_keep h0 e1 hS hAX hf hL hF
    obtain ⟨t2, a1, b1⟩ := kx E ce q u t T'.heap (locs ++ L) e1.symm (by rw [← e2]; exact X'.warmed.alike) hp hb k1 k2 k3 (by rw [e1]; exact hce) hcv hcl T' rfl X'
    exact ⟨t2, st.trans a1, b1⟩
theorem vx_calll {S SX : Type} {post : Int64 → S → Prop} {px : SX → Prop} {B : S → State → Prop} {BX : String → SX → State → Prop} {AX : Nat → Prop} (hr : vx_Run p l e R s m args below meth c H locs cells slots mc ms (F0 m pc ls st0) rest (va_Ql post B A1 a) (vx_X px BX AX) free) (hS : va_S A0 H0 H locs) (hA : ∀ q, q < H.size → A1 q → A0 q) (hf : ∀ q, free q → A0 q) (hAX : ∀ q, q < H.size → AX q → A0 q)
    (kx : ∀ (E : String) (ce : Cell) (q9 : Addr) (u : SX) (t : State) (H1 : Heap) (locs1 : List Loc), t.heap = H1 → s.vm.Alike t.vm → px u → BX E u t → H.size ≤ H1.size → (∀ q : Nat, q < H.size → ¬ AX q → H1[q]? = H[q]?) → va_S A0 H0 H1 locs1 → H1[q9]? = some ce → ce.vm = .none → s.vm.findClass E = some ce.cls → vx_W p l e R s m args below meth c H1 locs1 (cells + mc) (slots + ms) Q (F0 m pc ls rest) q9)
    (kk : ∀ (r : Int64) (u : S) (t : State) (H1 : Heap) (locs1 : List Loc), t.heap = H1 → s.vm.Alike t.vm → post r u → B u t → H.size ≤ H1.size → (∀ q : Nat, q < H.size → ¬ A1 q → H1[q]? = H[q]?) → va_S A0 H0 H1 locs1 → W p l e R s m args below meth c H1 locs1 (cells + mc) (slots + ms) Q (F0 m (pc + 3) ls (.long r :: rest))) : W p l e R s m args below meth c H locs cells slots Q (F0 m pc ls st0) := by
  intro T hT X
  rcases hr T hT X with ⟨v, st₀, t, T', L, h0, X', hL, e1, e2, ⟨⟨r, u, hv, hp, hb⟩, hF⟩, st⟩ | ⟨q, st₀, t, T', L, E, ce, h0, X', hL, e1, e2, ⟨u, hp, hb, hF⟩, hce, hcv, hcl, st⟩
  · cases hv
    obtain ⟨k1, k2, k3⟩ := vx_keep h0 e1 hS hA hf hL hF
    obtain ⟨t2, a1, b1⟩ := kk r u t T'.heap (locs ++ L) e1.symm (by rw [← e2]; exact X'.warmed.alike) hp hb k1 k2 k3 T' rfl X'
    exact ⟨t2, st t2 a1, b1⟩
  · obtain ⟨k1, k2, k3⟩ := vx_keep h0 e1 hS hAX hf hL hF
    obtain ⟨t2, a1, b1⟩ := kx E ce q u t T'.heap (locs ++ L) e1.symm (by rw [← e2]; exact X'.warmed.alike) hp hb k1 k2 k3 (by rw [e1]; exact hce) hcv hcl T' rfl X'
    exact ⟨t2, st.trans a1, b1⟩
theorem vx_callf {S SX : Type} {post : UInt32 → S → Prop} {px : SX → Prop} {B : S → State → Prop} {BX : String → SX → State → Prop} {AX : Nat → Prop} (hr : vx_Run p l e R s m args below meth c H locs cells slots mc ms (F0 m pc ls st0) rest (va_Qf post B A1 a) (vx_X px BX AX) free) (hS : va_S A0 H0 H locs) (hA : ∀ q, q < H.size → A1 q → A0 q) (hf : ∀ q, free q → A0 q) (hAX : ∀ q, q < H.size → AX q → A0 q)
    (kx : ∀ (E : String) (ce : Cell) (q9 : Addr) (u : SX) (t : State) (H1 : Heap) (locs1 : List Loc), t.heap = H1 → s.vm.Alike t.vm → px u → BX E u t → H.size ≤ H1.size → (∀ q : Nat, q < H.size → ¬ AX q → H1[q]? = H[q]?) → va_S A0 H0 H1 locs1 → H1[q9]? = some ce → ce.vm = .none → s.vm.findClass E = some ce.cls → vx_W p l e R s m args below meth c H1 locs1 (cells + mc) (slots + ms) Q (F0 m pc ls rest) q9)
    (kk : ∀ (r : UInt32) (u : S) (t : State) (H1 : Heap) (locs1 : List Loc), t.heap = H1 → s.vm.Alike t.vm → post r u → B u t → H.size ≤ H1.size → (∀ q : Nat, q < H.size → ¬ A1 q → H1[q]? = H[q]?) → va_S A0 H0 H1 locs1 → W p l e R s m args below meth c H1 locs1 (cells + mc) (slots + ms) Q (F0 m (pc + 3) ls (.float r :: rest))) : W p l e R s m args below meth c H locs cells slots Q (F0 m pc ls st0) := by
  intro T hT X
  rcases hr T hT X with ⟨v, st₀, t, T', L, h0, X', hL, e1, e2, ⟨⟨r, u, hv, hp, hb⟩, hF⟩, st⟩ | ⟨q, st₀, t, T', L, E, ce, h0, X', hL, e1, e2, ⟨u, hp, hb, hF⟩, hce, hcv, hcl, st⟩
  · cases hv
    obtain ⟨k1, k2, k3⟩ := vx_keep h0 e1 hS hA hf hL hF
    obtain ⟨t2, a1, b1⟩ := kk r u t T'.heap (locs ++ L) e1.symm (by rw [← e2]; exact X'.warmed.alike) hp hb k1 k2 k3 T' rfl X'
    exact ⟨t2, st t2 a1, b1⟩
  · obtain ⟨k1, k2, k3⟩ := vx_keep h0 e1 hS hAX hf hL hF
    obtain ⟨t2, a1, b1⟩ := kx E ce q u t T'.heap (locs ++ L) e1.symm (by rw [← e2]; exact X'.warmed.alike) hp hb k1 k2 k3 (by rw [e1]; exact hce) hcv hcl T' rfl X'
    exact ⟨t2, st.trans a1, b1⟩
theorem vx_calld {S SX : Type} {post : UInt64 → S → Prop} {px : SX → Prop} {B : S → State → Prop} {BX : String → SX → State → Prop} {AX : Nat → Prop} (hr : vx_Run p l e R s m args below meth c H locs cells slots mc ms (F0 m pc ls st0) rest (va_Qd post B A1 a) (vx_X px BX AX) free) (hS : va_S A0 H0 H locs) (hA : ∀ q, q < H.size → A1 q → A0 q) (hf : ∀ q, free q → A0 q) (hAX : ∀ q, q < H.size → AX q → A0 q)
    (kx : ∀ (E : String) (ce : Cell) (q9 : Addr) (u : SX) (t : State) (H1 : Heap) (locs1 : List Loc), t.heap = H1 → s.vm.Alike t.vm → px u → BX E u t → H.size ≤ H1.size → (∀ q : Nat, q < H.size → ¬ AX q → H1[q]? = H[q]?) → va_S A0 H0 H1 locs1 → H1[q9]? = some ce → ce.vm = .none → s.vm.findClass E = some ce.cls → vx_W p l e R s m args below meth c H1 locs1 (cells + mc) (slots + ms) Q (F0 m pc ls rest) q9)
    (kk : ∀ (r : UInt64) (u : S) (t : State) (H1 : Heap) (locs1 : List Loc), t.heap = H1 → s.vm.Alike t.vm → post r u → B u t → H.size ≤ H1.size → (∀ q : Nat, q < H.size → ¬ A1 q → H1[q]? = H[q]?) → va_S A0 H0 H1 locs1 → W p l e R s m args below meth c H1 locs1 (cells + mc) (slots + ms) Q (F0 m (pc + 3) ls (.double r :: rest))) : W p l e R s m args below meth c H locs cells slots Q (F0 m pc ls st0) := by
  intro T hT X
  rcases hr T hT X with ⟨v, st₀, t, T', L, h0, X', hL, e1, e2, ⟨⟨r, u, hv, hp, hb⟩, hF⟩, st⟩ | ⟨q, st₀, t, T', L, E, ce, h0, X', hL, e1, e2, ⟨u, hp, hb, hF⟩, hce, hcv, hcl, st⟩
  · cases hv
    obtain ⟨k1, k2, k3⟩ := vx_keep h0 e1 hS hA hf hL hF
    obtain ⟨t2, a1, b1⟩ := kk r u t T'.heap (locs ++ L) e1.symm (by rw [← e2]; exact X'.warmed.alike) hp hb k1 k2 k3 T' rfl X'
    exact ⟨t2, st t2 a1, b1⟩
  · obtain ⟨k1, k2, k3⟩ := vx_keep h0 e1 hS hAX hf hL hF
    obtain ⟨t2, a1, b1⟩ := kx E ce q u t T'.heap (locs ++ L) e1.symm (by rw [← e2]; exact X'.warmed.alike) hp hb k1 k2 k3 (by rw [e1]; exact hce) hcv hcl T' rfl X'
    exact ⟨t2, st.trans a1, b1⟩
theorem vx_callv {S SX : Type} {post : S → Prop} {px : SX → Prop} {B : S → State → Prop} {BX : String → SX → State → Prop} {AX : Nat → Prop} (hr : vx_Run p l e R s m args below meth c H locs cells slots mc ms (F0 m pc ls st0) rest (va_Qv post B A1 a) (vx_X px BX AX) free) (hS : va_S A0 H0 H locs) (hA : ∀ q, q < H.size → A1 q → A0 q) (hf : ∀ q, free q → A0 q) (hAX : ∀ q, q < H.size → AX q → A0 q)
    (kx : ∀ (E : String) (ce : Cell) (q9 : Addr) (u : SX) (t : State) (H1 : Heap) (locs1 : List Loc), t.heap = H1 → s.vm.Alike t.vm → px u → BX E u t → H.size ≤ H1.size → (∀ q : Nat, q < H.size → ¬ AX q → H1[q]? = H[q]?) → va_S A0 H0 H1 locs1 → H1[q9]? = some ce → ce.vm = .none → s.vm.findClass E = some ce.cls → vx_W p l e R s m args below meth c H1 locs1 (cells + mc) (slots + ms) Q (F0 m pc ls rest) q9)
    (kk : ∀ (u : S) (t : State) (H1 : Heap) (locs1 : List Loc), t.heap = H1 → s.vm.Alike t.vm → post u → B u t → H.size ≤ H1.size → (∀ q : Nat, q < H.size → ¬ A1 q → H1[q]? = H[q]?) → va_S A0 H0 H1 locs1 → W p l e R s m args below meth c H1 locs1 (cells + mc) (slots + ms) Q (F0 m (pc + 3) ls (rest))) : W p l e R s m args below meth c H locs cells slots Q (F0 m pc ls st0) := by
  intro T hT X
  rcases hr T hT X with ⟨v, st₀, t, T', L, h0, X', hL, e1, e2, ⟨⟨u, hv, hp, hb⟩, hF⟩, st⟩ | ⟨q, st₀, t, T', L, E, ce, h0, X', hL, e1, e2, ⟨u, hp, hb, hF⟩, hce, hcv, hcl, st⟩
  · cases hv
    obtain ⟨k1, k2, k3⟩ := vx_keep h0 e1 hS hA hf hL hF
    obtain ⟨t2, a1, b1⟩ := kk u t T'.heap (locs ++ L) e1.symm (by rw [← e2]; exact X'.warmed.alike) hp hb k1 k2 k3 T' rfl X'
    exact ⟨t2, st t2 a1, b1⟩
  · obtain ⟨k1, k2, k3⟩ := vx_keep h0 e1 hS hAX hf hL hF
    obtain ⟨t2, a1, b1⟩ := kx E ce q u t T'.heap (locs ++ L) e1.symm (by rw [← e2]; exact X'.warmed.alike) hp hb k1 k2 k3 (by rw [e1]; exact hce) hcv hcl T' rfl X'
    exact ⟨t2, st.trans a1, b1⟩
/-- caught by the row x of this method's table; the rows ahead don't take it -/
theorem vx_catch {own name : String} {E : String} {ce : Cell} {q : Addr} (hown : s.vm.findClass own = some m.cls) (pre : List ExceptionTableEntry) (x : ExceptionTableEntry) (suf : List ExceptionTableEntry) (hsplit : c.exceptionTable.toList = pre ++ x :: suf)
    (hpass : ∀ z ∈ pre, covers z pc = false ∨ (z.catchType ≠ 0 ∧ ∃ nm : String, (Cond.classLink own z.catchType nm).before args s = true ∧ va_Nc E nm s)) (hx : covers x pc = true) (h0 : x.catchType ≠ 0)
    (hlink : (Cond.classLink own x.catchType name).before args s = true) (hcast : (Cond.castable E name).before args s = true) (hcell : H[q]? = some ce) (hv : ce.vm = .none) (hcl : s.vm.findClass E = some ce.cls)
    (kk : W p l e R s m args below meth c H locs cells slots Q (F0 m x.handlerPc ls [.ref q])) : vx_W p l e R s m args below meth c H locs cells slots Q (F0 m pc ls rest) q := by
  intro T hT X
  have hpl : e.platform.magicAccessors = ({} : Platform).magicAccessors := by rw [X.admits.platform]
  obtain ⟨c3, c4, hc3, hc4, hasg⟩ := Cond.castable_spec hcast
  cases Option.some.inj (hc3.symm.trans hcl)
  obtain ⟨c5, hc5, hcl5⟩ := Cond.classLink_spec hown hlink e.platform hpl
  cases Option.some.inj (hc4.symm.trans hc5)
  obtain ⟨vm', X', st⟩ := X.thenCaughtThrough q (g := F0 m pc ls rest) rfl (Steps.refl _) (by rw [hT]; exact hcell) (by rw [hv]; rfl) (by obtain ⟨k9, h9, -⟩ := Vm.findClass_spec hcl; exact ⟨k9, h9⟩) pre x suf hsplit
    (fun z hz => by
      rcases hpass z hz with h | ⟨hz0, nm, hl1, hn1⟩
      · exact Or.inl h
      · obtain ⟨c6, hc6, hcl6⟩ := Cond.classLink_spec hown hl1 e.platform hpl
        obtain ⟨a8, b8, h1, h2, h3⟩ := hn1
        cases Option.some.inj (h1.symm.trans hcl)
        cases Option.some.inj (h2.symm.trans hc6)
        exact Or.inr ⟨hz0, _, hcl6, h3⟩) hx (Or.inr ⟨h0, c4, hcl5, hasg⟩)
  obtain ⟨t, a1, b1⟩ := kk (T.setVm vm') hT X'
  exact ⟨t, st.trans a1, b1⟩
end Rows
section Ends
variable {p : Program} {l : Launch} {e : Env} {R : Room} {s : State} {m : MethodId} {args : Array Value} {below : List Frame} {meth : Method} {c : Code} {H : Heap} {locs : List Loc} {cells slots : Nat} {Q : State → Prop}
variable {mc ms : Nat} {free : Addr → Prop} {A0 A1 : Nat → Prop} {H0 : Heap} {a : Array Value} {ls : Array Slot} {st0 rest : List Value}
variable {Qc : Array Value → State → Outcome → State → Prop} {XC : String → State → State → Prop}
/-- what a body that may throw owes at its end -/
def vx_MQ (below : List Frame) (Qc : Array Value → State → Outcome → State → Prop) (XC : String → State → State → Prop) (a : Array Value) (s : State) (mc ms : Nat) (free : Addr → Prop) : State → Prop := fun t =>
  ∃ o, t.status = .running ∧ Ended t below o ∧ vx_Q Qc XC mc ms free a s o t
theorem vx_ret {g : JFrame} {mc ms : Nat} (k : W p l e R s m args below meth c H locs cells slots (MQ below Qc args s mc ms free) g) : W p l e R s m args below meth c H locs cells slots (vx_MQ below Qc XC args s mc ms free) g := by
  intro T hT X
  obtain ⟨t, a1, o, b1, b2, b3, b4⟩ := k T hT X
  exact ⟨t, a1, o, b1, b2, Or.inl ⟨b3, b4⟩⟩
/-- not caught here: it goes on to the caller -/
theorem vx_widen {g : JFrame} {q : Addr} {k n : Nat} (h1 : cells ≤ k) (h2 : slots ≤ n) (kk : vx_W p l e R s m args below meth c H locs k n Q g q) : vx_W p l e R s m args below meth c H locs cells slots Q g q := fun T hT X => kk T hT (stand_widen X h1 h2)
theorem vx_out {pc : Nat} {E : String} {ce : Cell} {q : Addr} {mc ms : Nat} (hout : ∀ x ∈ c.exceptionTable.toList, covers x pc = false) (hlocks : meth.locks = false) (hcell : H[q]? = some ce) (hv : ce.vm = .none) (hcl : s.vm.findClass E = some ce.cls)
    (hx : ∀ t : State, t.heap = H → s.vm.Alike t.vm → XC E s t) (hf : ∀ z ∈ locs, free z.base) (hc : cells ≤ mc) (hs : slots ≤ ms) :
    vx_W p l e R s m args below meth c H locs cells slots (vx_MQ below Qc XC args s mc ms free) (F0 m pc ls rest) q := by
  intro T hT X
  obtain ⟨st1, hrun, hend, hW, hsm⟩ := X.leaveThrown q (g := F0 m pc ls rest) rfl rfl rfl hout hlocks
  have hcell9 : (T.setFrames (.throwing q :: below)).heap[q]? = some ce := by
    show T.heap[q]? = some ce
    rw [hT]; exact hcell
  exact ⟨_, st1, .threw q, hrun, hend, Or.inr ⟨q, rfl, E, ce, locs, hx _ hT hW.alike, hcell9, hv, hcl, hW, hsm.mono hc hs, hf⟩⟩
theorem vx_frame {U : State} {k n : Nat} (h : s.sameButNew ({ U with vm := s.vm } : State) locs k n) : s.heap.size ≤ U.heap.size ∧ ∀ q : Nat, q < s.heap.size → (∀ z ∈ locs, z.base ≠ q) → U.heap[q]? = s.heap[q]? := by
  obtain ⟨-, h2, -, -, -, h6⟩ := h
  refine ⟨h2, fun q hq hz => ?_⟩
  obtain ⟨c9, e1, e2, e3, e4⟩ := h6 q _ (Array.getElem?_eq_getElem hq)
  have hs : c9.slots = (s.heap[q]).slots := Array.ext_getElem? fun i => e4 i fun hm => hz _ hm rfl
  have h9 : c9 = s.heap[q] := by
    rw [hs] at e2
    exact e2
  have e5 : U.heap[q]? = some c9 := e1
  rw [e5, h9, Array.getElem?_eq_getElem hq]
/-- the words of a throw but the four that speak of the heap -/
def vx_no (w : Cond) : Bool := decide (w ≠ .isRef (.static Bundle.tN "UNASSIGNED_STACK" Bundle.steD)) && decide (w ≠ .isRef (.static Bundle.tN "SUPPRESSED_SENTINEL" Bundle.listD)) && decide (w ≠ .laysStatic Bundle.tN "UNASSIGNED_STACK" Bundle.steD) && decide (w ≠ .laysStatic Bundle.tN "SUPPRESSED_SENTINEL" Bundle.listD)
def vx_at0 (own : String) (ic : Nat) (X : String) (names : List String) : List Cond := (Bundle.ownAtoms0 own ic X names).filter vx_no
def vx_atS (own : String) (ic : Nat) (X : String) (names : List String) : List Cond := (Bundle.ownAtoms own ic X names).filter vx_no
/-- a word that the tables alone decide, or a good one -/
def vx_ot (w : Cond) : Bool := w.onTables || goodWord w
theorem vx_ot_at {args a' : Array Value} {s U : State} {w : Cond} (hW : s.WarmedH U.vm) (hvm : s.vm = U.vm) (hg : vx_ot w = true) (h : w.before args s = true) : w.before a' U = true := by
  simp only [vx_ot, Bool.or_eq_true] at hg
  rcases hg with hg | hg
  · exact va_tabs hg hvm h
  · exact word_at hW (good_of_word hg) h
/-- a list's words: the good ones out of the method's own list, the others by premises of their own -/
theorem vx_hat {args : Array Value} {s : State} {L B : List Cond} (h1 : ∀ w ∈ L.filter goodWord, w.before args s = true) (h2 : ∀ w ∈ L.filter (fun w => !goodWord w), w ∈ B) (h3 : ∀ w ∈ B, w.before args s = true) : ∀ w ∈ L, w.before args s = true := by
  intro w hw
  by_cases g : goodWord w = true
  · exact h1 w (List.mem_filter.mpr ⟨hw, g⟩)
  · refine h3 w (h2 w (List.mem_filter.mpr ⟨hw, ?_⟩))
    show (!goodWord w) = true
    cases hgw : goodWord w
    · rfl
    · exact absurd hgw g
theorem vx_c {args : Array Value} {s : State} {w : Cond} {B : List Cond} (h : w.before args s = true) (t : ∀ w ∈ B, w.before args s = true) : ∀ w' ∈ w :: B, w'.before args s = true := fun w' h' => (List.mem_cons.mp h').elim (fun e => by rw [e]; exact h) (t w')
theorem vx_n {args : Array Value} {s : State} : ∀ w ∈ ([] : List Cond), w.before args s = true := fun _ h => nomatch h
theorem vx_own {args : Array Value} {s : State} {L : List Cond} (h1 : ∀ w ∈ L.filter vx_no, w.before args s = true)
    (hU : (Cond.isRef (.static Bundle.tN "UNASSIGNED_STACK" Bundle.steD)).before args s = true) (hN : (Cond.isRef (.static Bundle.tN "SUPPRESSED_SENTINEL" Bundle.listD)).before args s = true)
    (lU : (Cond.laysStatic Bundle.tN "UNASSIGNED_STACK" Bundle.steD).before args s = true) (lN : (Cond.laysStatic Bundle.tN "SUPPRESSED_SENTINEL" Bundle.listD).before args s = true) : ∀ w ∈ L, w.before args s = true := by
  intro w hw
  by_cases e1 : w = .isRef (.static Bundle.tN "UNASSIGNED_STACK" Bundle.steD)
  · rw [e1]; exact hU
  · by_cases e2 : w = .isRef (.static Bundle.tN "SUPPRESSED_SENTINEL" Bundle.listD)
    · rw [e2]; exact hN
    · by_cases e3 : w = .laysStatic Bundle.tN "UNASSIGNED_STACK" Bundle.steD
      · rw [e3]; exact lU
      · by_cases e4 : w = .laysStatic Bundle.tN "SUPPRESSED_SENTINEL" Bundle.listD
        · rw [e4]; exact lN
        · exact h1 w (List.mem_filter.mpr ⟨hw, by unfold vx_no; rw [decide_eq_true e1, decide_eq_true e2, decide_eq_true e3, decide_eq_true e4]; rfl⟩)
/-- where a static field lies, its class's statics cell in H -/
def vx_L (C n d : String) (A : Nat → Prop) (U : State) (H : Heap) : Prop := ∃ (c : ClassId) (k : Class) (i : Nat) (f : Field) (a : Nat) (cell : Cell), U.vm.findClass C = some c ∧ U.fieldFound? C n d = some (c, k, i, f) ∧ f.isStatic = true ∧ k.statics = some a ∧ H[a]? = some cell ∧ cell.vm.isStatics = true ∧ cell.cls = c ∧ f.slot < cell.slots.size ∧ k.staticTypes[f.slot]? = some f.type ∧ ¬ A a
theorem vx_L.moved {C n d : String} {A : Nat → Prop} {u U : State} {H : Heap} (hvm : u.vm.Alike U.vm) (h : vx_L C n d A u H) : vx_L C n d A U H := by
  obtain ⟨c, k, i, f, a, cell, h1, h2, h3, h4, h5, h6, h7, h8, h9, h10⟩ := h
  obtain ⟨k', hi', he⟩ := State.fieldFound?_setVm hvm h2
  exact ⟨c, k', i, f, a, cell, by rw [hvm.findClass]; exact h1, hi', h3, by rw [he]; exact h4, h5, h6, h7, h8, by rw [he]; exact h9, h10⟩
theorem vx_L.kept {C n d : String} {A : Nat → Prop} {U : State} {H H1 : Heap} (h : vx_L C n d A U H) (hq : ∀ a : Nat, a < H.size → ¬ A a → H1[a]? = H[a]?) : vx_L C n d A U H1 := by
  obtain ⟨c, k, i, f, a, cell, h1, h2, h3, h4, h5, h6, h7, h8, h9, h10⟩ := h
  exact ⟨c, k, i, f, a, cell, h1, h2, h3, h4, by rw [hq a (Array.getElem?_eq_some_iff.mp h5).1 h10]; exact h5, h6, h7, h8, h9, h10⟩
theorem vx_L.narrow {C n d : String} {A B : Nat → Prop} {U : State} {H : Heap} (h : vx_L C n d A U H) (hAB : ∀ q, B q → A q) : vx_L C n d B U H := by
  obtain ⟨c, k, i, f, a, cell, h1, h2, h3, h4, h5, h6, h7, h8, h9, h10⟩ := h
  exact ⟨c, k, i, f, a, cell, h1, h2, h3, h4, h5, h6, h7, h8, h9, fun z => h10 (hAB _ z)⟩
theorem vx_L.word {C n d : String} {A : Nat → Prop} {s : State} {args : Array Value} (h : vx_L C n d A s s.heap) : (Cond.laysStatic C n d).before args s = true := by
  obtain ⟨c, k, i, f, a, cell, h1, h2, h3, h4, h5, h6, h7, h8, h9, -⟩ := h
  show (Cond.laysStatic C n d).holds args s none s [] = true
  exact Cond.laysStatic_of h1 h2 h3 h4 h5 h6 h7 h8 h9
/-- .. and what it holds: null or some reference -/
def vx_Zq (C n d : String) (A : Nat → Prop) (U : State) (H : Heap) : Prop := va_Zq C n d A U H ∧ vx_L C n d A U H
theorem vx_Zq.moved {C n d : String} {A : Nat → Prop} {u U : State} {H : Heap} (hvm : u.vm.Alike U.vm) (h : vx_Zq C n d A u H) : vx_Zq C n d A U H := ⟨va_Zq.moved hvm h.1, vx_L.moved hvm h.2⟩
theorem vx_Zq.kept {C n d : String} {A : Nat → Prop} {U : State} {H H1 : Heap} (h : vx_Zq C n d A U H) (hq : ∀ a : Nat, a < H.size → ¬ A a → H1[a]? = H[a]?) : vx_Zq C n d A U H1 := ⟨va_Zq.kept h.1 hq, vx_L.kept h.2 hq⟩
theorem vx_Zq.narrow {C n d : String} {A B : Nat → Prop} {U : State} {H : Heap} (h : vx_Zq C n d A U H) (hAB : ∀ q, B q → A q) : vx_Zq C n d B U H := ⟨va_Zq.narrow h.1 hAB, vx_L.narrow h.2 hAB⟩
theorem vx_Zqof {args : Array Value} {s : State} {C n d : String} {A : Nat → Prop} (hl : (Cond.laysStatic C n d).before args s = true) (hini : (Cond.initialized C).before args s = true) (h : (Cond.isRef (.static C n d)).before args s = true) (hA : ∀ a : Nat, a < s.heap.size → ¬ A a) : vx_Zq C n d A s s.heap := by
  refine ⟨va_Zqof hl hini h hA, ?_⟩
  obtain ⟨c, k, i, f, a, cell, h1, h2, h3, h4, h5, h6, h7, h8, h9⟩ := Cond.laysStatic_spec hl
  exact ⟨c, k, i, f, a, cell, h1, h2, h3, h4, h5, h6, h7, h8, h9, hA a (Array.getElem?_eq_some_iff.mp h5).1⟩
theorem vx_isRef {C n d : String} {v : Value} {A : Nat → Prop} {s : State} {args : Array Value} (h : va_Z C n d v A s s.heap) (hv : v.isRef = true) : (Cond.isRef (.static C n d)).before args s = true := by
  obtain ⟨cf, kf, fi, f, a, cell, h1, h2, h3, h4, h5, h6, h7, -⟩ := h
  have he : (Term.static C n d).eval args s none [] s = some v := by
    simp [Term.eval, State.fieldNamed?, h1, h2, h4, h5, h6, h7]
  simp only [Cond.before, Cond.holds, Cond.value, he]
  cases v <;> simp_all [Value.isRef]
theorem vx_isRefq {C n d : String} {A : Nat → Prop} {s : State} {args : Array Value} (h : va_Zq C n d A s s.heap) : (Cond.isRef (.static C n d)).before args s = true := by
  rcases h with h | ⟨t, h⟩
  · exact vx_isRef h rfl
  · exact vx_isRef h rfl
/-- the same frame, seen from here: as if the method were called anew in this heap -/
theorem vx_rebase {T : State} (X : Stand p l e R s m args below meth c T locs cells slots) {R' : Room} (hf : R'.frames ≤ R.frames) (hl : R'.locals ≤ R.locals) (hc : cells + R'.cells ≤ R.cells) (hs : slots + R'.slots ≤ R.slots) :
    Stand p l e R' ((T.setVm s.vm).setFrames (.invoking m args :: below)) m args below meth c T [] 0 0 := by
  have htop : (T.setVm s.vm).topJava?.isSome := X.here.top
  have hF : ((T.setVm s.vm).setFrames (.invoking m args :: below)).frames = .invoking m args :: below := State.frames_setFrames _ (State.cur_lt_of_top htop)
  obtain ⟨g₀, hg0⟩ := Option.isSome_iff_exists.mp htop
  obtain ⟨r, hr⟩ := State.topJava?_eq_some.mp hg0
  have hl9 : e.platform.stackLimits (T.setVm s.vm).me = e.platform.stackLimits s.me := X.limits
  have hb9 : (T.setVm s.vm).me.stackBytes = s.me.stackBytes := X.bytes
  refine ⟨X.admits, X.cas, X.clock, hF, ?_, X.hears, X.method, X.code, X.here, X.tail, X.warmed, ?_, ?_, ?_⟩
  · have h := X.room
    have hU : ((T.setVm s.vm).setFrames (.invoking m args :: below)).localsInUse = s.localsInUse := by
      rw [State.localsInUse_invoking hF (meth := meth) (c := c) X.method X.code, State.localsInUse_invoking X.frames X.method X.code]
    simp only [State.hasRoom, Bool.and_eq_true, decide_eq_true_eq] at h ⊢
    obtain ⟨⟨⟨⟨h1, h2, h3, h4, h5, h6⟩, h7⟩, h8⟩, h9⟩ := h
    rw [X.frames, List.length_cons] at h2 h3
    have q1 := X.heapSize
    have q2 := X.used
    simp only [hF, hU, List.length_cons, State.stackLimits_setFrames, State.stackBytes_setFrames, hl9, hb9]
    refine ⟨⟨⟨⟨by omega, by omega, by omega, by omega, by omega, h6⟩, ?_⟩, ?_⟩, X.book⟩
    · show T.heap.size + R'.cells ≤ e.platform.maxCells
      omega
    · show T.slotsUsed + R'.slots ≤ e.platform.maxSlots
      omega
  · rw [State.stackLimits_setFrames]; rfl
  · rw [State.stackBytes_setFrames]; rfl
  · refine ⟨?_, Nat.le_refl _, Nat.le_refl _, ?_, ?_, fun a c9 h9 => ⟨c9, h9, rfl, rfl, fun _ _ => rfl⟩⟩
    · obtain ⟨t, ht, -⟩ := State.frames_cons hr
      show T.setVm s.vm = { ((T.setVm s.vm).setFrames (.invoking m args :: below)).setFrames (T.setVm s.vm).frames with heap := T.heap, slotsUsed := T.slotsUsed }
      rw [State.setFrames_setFrames, State.setFrames_self ht]
      rfl
    · show T.slotsUsed = T.slotsUsed + ((T.heap.toList.drop T.heap.size).map (·.slots.size)).sum
      rw [List.drop_eq_nil_of_le (Nat.le_of_eq Array.length_toList)]
      rfl
    · show ((T.heap.toList.drop T.heap.size).map (·.slots.size)).sum ≤ 0
      rw [List.drop_eq_nil_of_le (Nat.le_of_eq Array.length_toList)]
      exact Nat.le_refl _
/-- 'throw new E()': new; dup; invokespecial; athrow -/
theorem vx_throw0 {cc : ByteArray} {pc : Nat} (hexec : p.tables.exec = Jvm.exec) (hb : c.code = cc) (hl : l.stackTraces = false) {own cls : String} {names : List String} {ik ic mc ms : Nat} {A : Nat → Prop}
    (hown : s.vm.findClass own = some m.cls) (hcls : Bundle.fit cls = true) (hnames : ∀ n ∈ names, Bundle.fit n = true)
    (hk : (Cond.classLink own ik cls).before args s = true) (hini : (Cond.initialized cls).before args s = true) (hat : ∀ w ∈ vx_at0 own ic cls names, w.before args s = true)
    (hgood : ∀ w ∈ Cond.classLink own ik cls :: Cond.initialized cls :: vx_at0 own ic cls names, vx_ot w = true)
    (hU : vx_Zq Bundle.tN "UNASSIGNED_STACK" Bundle.steD A s s.heap) (hN : vx_Zq Bundle.tN "SUPPRESSED_SENTINEL" Bundle.listD A s s.heap) (hS : va_S A s.heap H locs) (hsize : ls.size = c.maxLocals)
    (d0 : decode cc pc = .ok (.new ik, 3)) (d3 : decode cc (pc + 3) = .ok (.dup, 1)) (d4 : decode cc (pc + 4) = .ok (.invokespecial ic, 3)) (d7 : decode cc (pc + 7) = .ok (.athrow, 1))
    (hout : ∀ x ∈ c.exceptionTable.toList, covers x (pc + 7) = false)
    (hRframes : names.length + 3 < R.frames) (hRlocals : (rest.map fun v => v.category).sum + (13 * (names.length + 1) + 42) ≤ R.locals) (hRcells : cells + 1 ≤ R.cells) (hRslots : slots + 6 ≤ R.slots) (hlocks : meth.locks = false)
    (hx : ∀ t : State, s.vm.Alike t.vm → H.size ≤ t.heap.size → (∀ q : Nat, q < H.size → t.heap[q]? = H[q]?) → XC cls s t)
    (hf : ∀ z ∈ locs, free z.base) (hc : cells + 1 ≤ mc) (hs : slots + 6 ≤ ms) :
    W p l e R s m args below meth c H locs cells slots (vx_MQ below Qc XC args s mc ms free) (F0 m pc ls rest) := by
  intro T hT X
  have htr : e.platform.stackTraces = false := (show e.platform.stackTraces = l.stackTraces by rw [X.admits.platform]).trans hl
  have Y := vx_rebase X (R' := { frames := R.frames, locals := R.locals, cells := 1, slots := 6 }) (Nat.le_refl _) (Nat.le_refl _) hRcells hRslots
  obtain ⟨s', hA⟩ : ∃ z, z = (T.setVm s.vm).setFrames (.invoking m args :: below) := ⟨_, rfl⟩
  rw [← hA] at Y
  have hvm : s'.vm = s.vm := by rw [hA]; rfl
  have hhp : s'.heap = H := by rw [hA]; exact hT
  have hW0 : s.WarmedH s'.vm := by rw [hvm]; exact State.WarmedH.refl s
  have hat' : ∀ w ∈ vx_at0 own ic cls names, w.before args s' = true := fun w hw => vx_ot_at hW0 hvm.symm (hgood w (List.mem_cons_of_mem _ (List.mem_cons_of_mem _ hw))) (hat w hw)
  have hk' : (Cond.classLink own ik cls).before args s' = true := vx_ot_at hW0 hvm.symm (hgood _ List.mem_cons_self) hk
  have hini' : (Cond.initialized cls).before args s' = true := vx_ot_at hW0 hvm.symm (hgood _ (List.mem_cons_of_mem _ List.mem_cons_self)) hini
  have hU' : vx_Zq Bundle.tN "UNASSIGNED_STACK" Bundle.steD A s' s'.heap := by rw [hhp]; exact vx_Zq.moved hW0.alike (hU.kept hS.2.1)
  have hN' : vx_Zq Bundle.tN "SUPPRESSED_SENTINEL" Bundle.listD A s' s'.heap := by rw [hhp]; exact vx_Zq.moved hW0.alike (hN.kept hS.2.1)
  have h : ∀ w ∈ Bundle.ownAtoms0 own ic cls names, w.before args s' = true := vx_own hat' (vx_isRefq hU'.1) (vx_isRefq hN'.1) hU'.2.word hN'.2.word
  have hown' : s'.vm.findClass own = some m.cls := by rw [hvm]; exact hown
  have hins : (Cond.instantiable cls 6).before args s' = true := h _ (by simp [Bundle.ownAtoms0])
  obtain ⟨vm₁, cX, kX, hfX, hkX, -, -, X₁, st1⟩ := Y.newCold hexec (own := own) (C := cls) (index := ik) (n := 6) hown' hk' hins hini'
    (g := F0 m pc ls rest) rfl (by rw [hb]; exact d0) (Nat.le_refl _) (Nat.le_refl _)
  generalize hT1 : (T.setVm vm₁).pushCell { cls := cX, slots := kX.instanceTypes.map defaultValue, vm := .none } = T1 at X₁ st1
  have hcat : (Value.ref T.heap.size).category = 1 := rfl
  have hcellA : T1.heap[T.heap.size]? = some (freshCell cX kX) := by rw [← hT1]; exact State.heap_pushCell_size _ _
  have d3' : decode c.code (pc + 3) = .ok (.dup, 1) := by rw [hb]; exact d3
  obtain ⟨U, hsteps, hrun, hend, hW, hsame, ce, hce, hO⟩ := X₁.ctorThrow0 hexec htr (own := own) (cls := cls) (names := names) (ic := ic) hown' hcls hnames h (fun x hx => nomatch hx) hfX hkX hcellA (by rw [hhp, hT]; exact Nat.le_refl _)
    (g := { method := m, pc := pc + 4, locals := ls, stack := .ref T.heap.size :: .ref T.heap.size :: rest, locked := none }) rfl hsize rfl rfl (rest := rest) rfl
    (by rw [hb]; exact d4) (by rw [hb]; exact d7) hout hRframes (by simp only [List.map_cons, List.sum_cons, hcat]; omega) hlocks
  obtain ⟨f1, f2⟩ := vx_frame hsame
  rw [hhp] at f1 f2
  have hWs : s.WarmedH U.vm := State.WarmedH.trans hW0 hW
  have hcl : s.vm.findClass cls = some ce.cls := by
    have h9 := hO.cls
    rw [hvm] at h9
    exact h9
  have hall : s.sameButNew ({ U with vm := s.vm } : State) locs mc ms := by
    subst hA
    obtain ⟨e1, e2⟩ := hsame
    rw [State.setFrames_setFrames] at e1
    have h2 : (T.setVm s.vm).sameButNew ({ U with vm := s.vm } : State) [] (0 + 1) (0 + 6) := ⟨e1, e2⟩
    have h3 := X.same.trans h2
    rw [List.append_nil] at h3
    exact h3.mono hc hs
  refine ⟨U, ?_, .threw T.heap.size, hrun, hend, Or.inr ⟨T.heap.size, rfl, cls, ce, locs, hx U hWs.alike f1 (fun q hq => f2 q hq (fun z hz => nomatch hz)), hce, hO.vm, hcl, hWs, hall, hf⟩⟩
  refine st1 _ ?_
  show Steps p.tables e below (T1.setTop { method := m, pc := pc + 3, locals := ls, stack := .ref T.heap.size :: rest, locked := none }) _
  jvm_step X₁.here [X₁.here.top, hexec, d3', Value.category]
  exact hsteps
/-- 'throw new E("text")': new; dup; ldc; invokespecial; athrow -/
theorem vx_throwS {cc : ByteArray} {pc : Nat} (hexec : p.tables.exec = Jvm.exec) (hb : c.code = cc) (hl : l.stackTraces = false) {own cls text : String} {names : List String} {ik is ic mc ms sa : Nat} {A : Nat → Prop}
    (hown : s.vm.findClass own = some m.cls) (hcls : Bundle.fit cls = true) (hnames : ∀ n ∈ names, Bundle.fit n = true)
    (hk : (Cond.classLink own ik cls).before args s = true) (hini : (Cond.initialized cls).before args s = true) (hstr : vk_R own is text sa s) (hat : ∀ w ∈ vx_atS own ic cls names, w.before args s = true)
    (hgood : ∀ w ∈ Cond.classLink own ik cls :: Cond.initialized cls :: vx_atS own ic cls names, vx_ot w = true)
    (hU : vx_Zq Bundle.tN "UNASSIGNED_STACK" Bundle.steD A s s.heap) (hN : vx_Zq Bundle.tN "SUPPRESSED_SENTINEL" Bundle.listD A s s.heap) (hS : va_S A s.heap H locs) (hsize : ls.size = c.maxLocals)
    (d0 : decode cc pc = .ok (.new ik, 3)) (d3 : decode cc (pc + 3) = .ok (.dup, 1)) (d4 : decode cc (pc + 4) = .ok (.ldc is, 2)) (d6 : decode cc (pc + 6) = .ok (.invokespecial ic, 3)) (d9 : decode cc (pc + 9) = .ok (.athrow, 1))
    (hout : ∀ x ∈ c.exceptionTable.toList, covers x (pc + 9) = false)
    (hRframes : names.length + 3 < R.frames) (hRlocals : (rest.map fun v => v.category).sum + (13 * (names.length + 1) + 43) ≤ R.locals) (hRcells : cells + 1 ≤ R.cells) (hRslots : slots + 6 ≤ R.slots) (hlocks : meth.locks = false)
    (hx : ∀ t : State, s.vm.Alike t.vm → H.size ≤ t.heap.size → (∀ q : Nat, q < H.size → t.heap[q]? = H[q]?) → XC cls s t)
    (hf : ∀ z ∈ locs, free z.base) (hc : cells + 1 ≤ mc) (hs : slots + 6 ≤ ms) :
    W p l e R s m args below meth c H locs cells slots (vx_MQ below Qc XC args s mc ms free) (F0 m pc ls rest) := by
  intro T hT X
  have htr : e.platform.stackTraces = false := (show e.platform.stackTraces = l.stackTraces by rw [X.admits.platform]).trans hl
  have Y := vx_rebase X (R' := { frames := R.frames, locals := R.locals, cells := 1, slots := 6 }) (Nat.le_refl _) (Nat.le_refl _) hRcells hRslots
  obtain ⟨s', hA⟩ : ∃ z, z = (T.setVm s.vm).setFrames (.invoking m args :: below) := ⟨_, rfl⟩
  rw [← hA] at Y
  have hvm : s'.vm = s.vm := by rw [hA]; rfl
  have hhp : s'.heap = H := by rw [hA]; exact hT
  have hW0 : s.WarmedH s'.vm := by rw [hvm]; exact State.WarmedH.refl s
  have hat' : ∀ w ∈ vx_atS own ic cls names, w.before args s' = true := fun w hw => vx_ot_at hW0 hvm.symm (hgood w (List.mem_cons_of_mem _ (List.mem_cons_of_mem _ hw))) (hat w hw)
  have hk' : (Cond.classLink own ik cls).before args s' = true := vx_ot_at hW0 hvm.symm (hgood _ List.mem_cons_self) hk
  have hini' : (Cond.initialized cls).before args s' = true := vx_ot_at hW0 hvm.symm (hgood _ (List.mem_cons_of_mem _ List.mem_cons_self)) hini
  have hU' : vx_Zq Bundle.tN "UNASSIGNED_STACK" Bundle.steD A s' s'.heap := by rw [hhp]; exact vx_Zq.moved hW0.alike (hU.kept hS.2.1)
  have hN' : vx_Zq Bundle.tN "SUPPRESSED_SENTINEL" Bundle.listD A s' s'.heap := by rw [hhp]; exact vx_Zq.moved hW0.alike (hN.kept hS.2.1)
  have h : ∀ w ∈ Bundle.ownAtoms own ic cls names, w.before args s' = true := vx_own hat' (vx_isRefq hU'.1) (vx_isRefq hN'.1) hU'.2.word hN'.2.word
  have hown' : s'.vm.findClass own = some m.cls := by rw [hvm]; exact hown
  have hins : (Cond.instantiable cls 6).before args s' = true := h _ (by simp [Bundle.ownAtoms])
  obtain ⟨vm₁, cX, kX, hfX, hkX, -, -, X₁, st1⟩ := Y.newCold hexec (own := own) (C := cls) (index := ik) (n := 6) hown' hk' hins hini'
    (g := F0 m pc ls rest) rfl (by rw [hb]; exact d0) (Nat.le_refl _) (Nat.le_refl _)
  generalize hT1 : (T.setVm vm₁).pushCell { cls := cX, slots := kX.instanceTypes.map defaultValue, vm := .none } = T1 at X₁ st1
  have hcat : (Value.ref T.heap.size).category = 1 := rfl
  have hcellA : T1.heap[T.heap.size]? = some (freshCell cX kX) := by rw [← hT1]; exact State.heap_pushCell_size _ _
  have d3' : decode c.code (pc + 3) = .ok (.dup, 1) := by rw [hb]; exact d3
  have d4' : decode c.code (pc + 4) = .ok (.ldc is, 2) := by rw [hb]; exact d4
  have hstr' : vk_R own is text sa s' := vk_R.warm hW0 hstr
  obtain ⟨U, hsteps, hrun, hend, hW, hsame, ce, hce, hO⟩ := X₁.ctorThrowS hexec htr (own := own) (cls := cls) (names := names) (ic := ic) hown' hcls hnames h (fun x hx => nomatch hx) hfX hkX hcellA (by rw [hhp, hT]; exact Nat.le_refl _) (msg := .ref sa) rfl
    (g := { method := m, pc := pc + 6, locals := ls, stack := .ref sa :: .ref T.heap.size :: .ref T.heap.size :: rest, locked := none }) rfl hsize rfl rfl (rest := rest) rfl
    (by rw [hb]; exact d6) (by rw [hb]; exact d9) hout hRframes (by simp only [List.map_cons, List.sum_cons, hcat]; omega) hlocks
  obtain ⟨f1, f2⟩ := vx_frame hsame
  rw [hhp] at f1 f2
  have hWs : s.WarmedH U.vm := State.WarmedH.trans hW0 hW
  have hcl : s.vm.findClass cls = some ce.cls := by
    have h9 := hO.cls
    rw [hvm] at h9
    exact h9
  have hall : s.sameButNew ({ U with vm := s.vm } : State) locs mc ms := by
    subst hA
    obtain ⟨e1, e2⟩ := hsame
    rw [State.setFrames_setFrames] at e1
    have h2 : (T.setVm s.vm).sameButNew ({ U with vm := s.vm } : State) [] (0 + 1) (0 + 6) := ⟨e1, e2⟩
    have h3 := X.same.trans h2
    rw [List.append_nil] at h3
    exact h3.mono hc hs
  refine ⟨U, ?_, .threw T.heap.size, hrun, hend, Or.inr ⟨T.heap.size, rfl, cls, ce, locs, hx U hWs.alike f1 (fun q hq => f2 q hq (fun z hz => nomatch hz)), hce, hO.vm, hcl, hWs, hall, hf⟩⟩
  refine st1 _ ?_
  show Steps p.tables e below (T1.setTop { method := m, pc := pc + 3, locals := ls, stack := .ref T.heap.size :: rest, locked := none }) _
  jvm_step X₁.here [X₁.here.top, hexec, d3', Value.category]
  exact X₁.ldcString hexec (own := own) (text := text) (index := is) (a := sa) hown' hstr'.1 hstr'.2
    (g := { method := m, pc := pc + 4, locals := ls, stack := .ref T.heap.size :: .ref T.heap.size :: rest, locked := none }) rfl d4' _ hsteps
/-- 'throw new E("text")', the text by a wide index -/
theorem vx_throwSW {cc : ByteArray} {pc : Nat} (hexec : p.tables.exec = Jvm.exec) (hb : c.code = cc) (hl : l.stackTraces = false) {own cls text : String} {names : List String} {ik is ic mc ms sa : Nat} {A : Nat → Prop}
    (hown : s.vm.findClass own = some m.cls) (hcls : Bundle.fit cls = true) (hnames : ∀ n ∈ names, Bundle.fit n = true)
    (hk : (Cond.classLink own ik cls).before args s = true) (hini : (Cond.initialized cls).before args s = true) (hstr : vk_R own is text sa s) (hat : ∀ w ∈ vx_atS own ic cls names, w.before args s = true)
    (hgood : ∀ w ∈ Cond.classLink own ik cls :: Cond.initialized cls :: vx_atS own ic cls names, vx_ot w = true)
    (hU : vx_Zq Bundle.tN "UNASSIGNED_STACK" Bundle.steD A s s.heap) (hN : vx_Zq Bundle.tN "SUPPRESSED_SENTINEL" Bundle.listD A s s.heap) (hS : va_S A s.heap H locs) (hsize : ls.size = c.maxLocals)
    (d0 : decode cc pc = .ok (.new ik, 3)) (d3 : decode cc (pc + 3) = .ok (.dup, 1)) (d4 : decode cc (pc + 4) = .ok (.ldc_w is, 3)) (d7 : decode cc (pc + 7) = .ok (.invokespecial ic, 3)) (d10 : decode cc (pc + 10) = .ok (.athrow, 1))
    (hout : ∀ x ∈ c.exceptionTable.toList, covers x (pc + 10) = false)
    (hRframes : names.length + 3 < R.frames) (hRlocals : (rest.map fun v => v.category).sum + (13 * (names.length + 1) + 43) ≤ R.locals) (hRcells : cells + 1 ≤ R.cells) (hRslots : slots + 6 ≤ R.slots) (hlocks : meth.locks = false)
    (hx : ∀ t : State, s.vm.Alike t.vm → H.size ≤ t.heap.size → (∀ q : Nat, q < H.size → t.heap[q]? = H[q]?) → XC cls s t)
    (hf : ∀ z ∈ locs, free z.base) (hc : cells + 1 ≤ mc) (hs : slots + 6 ≤ ms) :
    W p l e R s m args below meth c H locs cells slots (vx_MQ below Qc XC args s mc ms free) (F0 m pc ls rest) := by
  intro T hT X
  have htr : e.platform.stackTraces = false := (show e.platform.stackTraces = l.stackTraces by rw [X.admits.platform]).trans hl
  have Y := vx_rebase X (R' := { frames := R.frames, locals := R.locals, cells := 1, slots := 6 }) (Nat.le_refl _) (Nat.le_refl _) hRcells hRslots
  obtain ⟨s', hA⟩ : ∃ z, z = (T.setVm s.vm).setFrames (.invoking m args :: below) := ⟨_, rfl⟩
  rw [← hA] at Y
  have hvm : s'.vm = s.vm := by rw [hA]; rfl
  have hhp : s'.heap = H := by rw [hA]; exact hT
  have hW0 : s.WarmedH s'.vm := by rw [hvm]; exact State.WarmedH.refl s
  have hat' : ∀ w ∈ vx_atS own ic cls names, w.before args s' = true := fun w hw => vx_ot_at hW0 hvm.symm (hgood w (List.mem_cons_of_mem _ (List.mem_cons_of_mem _ hw))) (hat w hw)
  have hk' : (Cond.classLink own ik cls).before args s' = true := vx_ot_at hW0 hvm.symm (hgood _ List.mem_cons_self) hk
  have hini' : (Cond.initialized cls).before args s' = true := vx_ot_at hW0 hvm.symm (hgood _ (List.mem_cons_of_mem _ List.mem_cons_self)) hini
  have hU' : vx_Zq Bundle.tN "UNASSIGNED_STACK" Bundle.steD A s' s'.heap := by rw [hhp]; exact vx_Zq.moved hW0.alike (hU.kept hS.2.1)
  have hN' : vx_Zq Bundle.tN "SUPPRESSED_SENTINEL" Bundle.listD A s' s'.heap := by rw [hhp]; exact vx_Zq.moved hW0.alike (hN.kept hS.2.1)
  have h : ∀ w ∈ Bundle.ownAtoms own ic cls names, w.before args s' = true := vx_own hat' (vx_isRefq hU'.1) (vx_isRefq hN'.1) hU'.2.word hN'.2.word
  have hown' : s'.vm.findClass own = some m.cls := by rw [hvm]; exact hown
  have hins : (Cond.instantiable cls 6).before args s' = true := h _ (by simp [Bundle.ownAtoms])
  obtain ⟨vm₁, cX, kX, hfX, hkX, -, -, X₁, st1⟩ := Y.newCold hexec (own := own) (C := cls) (index := ik) (n := 6) hown' hk' hins hini'
    (g := F0 m pc ls rest) rfl (by rw [hb]; exact d0) (Nat.le_refl _) (Nat.le_refl _)
  generalize hT1 : (T.setVm vm₁).pushCell { cls := cX, slots := kX.instanceTypes.map defaultValue, vm := .none } = T1 at X₁ st1
  have hcat : (Value.ref T.heap.size).category = 1 := rfl
  have hcellA : T1.heap[T.heap.size]? = some (freshCell cX kX) := by rw [← hT1]; exact State.heap_pushCell_size _ _
  have d3' : decode c.code (pc + 3) = .ok (.dup, 1) := by rw [hb]; exact d3
  have d4' : decode c.code (pc + 4) = .ok (.ldc_w is, 3) := by rw [hb]; exact d4
  have hstr' : vk_R own is text sa s' := vk_R.warm hW0 hstr
  obtain ⟨U, hsteps, hrun, hend, hW, hsame, ce, hce, hO⟩ := X₁.ctorThrowS hexec htr (own := own) (cls := cls) (names := names) (ic := ic) hown' hcls hnames h (fun x hx => nomatch hx) hfX hkX hcellA (by rw [hhp, hT]; exact Nat.le_refl _) (msg := .ref sa) rfl
    (g := { method := m, pc := pc + 7, locals := ls, stack := .ref sa :: .ref T.heap.size :: .ref T.heap.size :: rest, locked := none }) rfl hsize rfl rfl (rest := rest) rfl
    (by rw [hb]; exact d7) (by rw [hb]; exact d10) hout hRframes (by simp only [List.map_cons, List.sum_cons, hcat]; omega) hlocks
  obtain ⟨f1, f2⟩ := vx_frame hsame
  rw [hhp] at f1 f2
  have hWs : s.WarmedH U.vm := State.WarmedH.trans hW0 hW
  have hcl : s.vm.findClass cls = some ce.cls := by
    have h9 := hO.cls
    rw [hvm] at h9
    exact h9
  have hall : s.sameButNew ({ U with vm := s.vm } : State) locs mc ms := by
    subst hA
    obtain ⟨e1, e2⟩ := hsame
    rw [State.setFrames_setFrames] at e1
    have h2 : (T.setVm s.vm).sameButNew ({ U with vm := s.vm } : State) [] (0 + 1) (0 + 6) := ⟨e1, e2⟩
    have h3 := X.same.trans h2
    rw [List.append_nil] at h3
    exact h3.mono hc hs
  refine ⟨U, ?_, .threw T.heap.size, hrun, hend, Or.inr ⟨T.heap.size, rfl, cls, ce, locs, hx U hWs.alike f1 (fun q hq => f2 q hq (fun z hz => nomatch hz)), hce, hO.vm, hcl, hWs, hall, hf⟩⟩
  refine st1 _ ?_
  show Steps p.tables e below (T1.setTop { method := m, pc := pc + 3, locals := ls, stack := .ref T.heap.size :: rest, locked := none }) _
  jvm_step X₁.here [X₁.here.top, hexec, d3', Value.category]
  exact X₁.ldcStringW hexec (own := own) (text := text) (index := is) (a := sa) hown' hstr'.1 hstr'.2
    (g := { method := m, pc := pc + 4, locals := ls, stack := .ref T.heap.size :: .ref T.heap.size :: rest, locked := none }) rfl d4' _ hsteps
end Ends
section Bodies
variable {l : Launch}
theorem vx_ofW {y : MethodName} {ws ws' : List Cond} {rm : Room} {Pc : Array Value → State → Prop} {Qc : Array Value → State → Outcome → State → Prop} {XC : String → State → State → Prop} {mc ms : Nat} {free : Addr → Prop} {cc : ByteArray} {maxL : Nat} {ret : Option FieldType}
    (hy : plainName y.cls = true) (hw : ws = Cond.code y cc maxL ret :: ws')
    (body : ∀ p e s m args below meth c s₁, BodyLoose p l y (headSpec ws rm) cc maxL ret e s m args below meth c s₁ → c.maxLocals = maxL → (∀ x ∈ c.exceptionTable.toList, False) → Pc args s →
      W p l e (headSpec ws rm).room s m args below meth c s.heap [] 0 0 (vx_MQ below Qc XC args s mc ms free) (entryFrame m args maxL)) : vx_Met l y ws rm Pc Qc XC mc ms free := by
  refine MetFree.of_bodyS (code := cc) (maxLocals := maxL) (ret := ret) hy ?_ ?_
  · intro args s m h hn
    obtain ⟨meth, c, h1, h2, h3, h4, h5, h6, -, -⟩ := Cond.code_spec hn (atoms_spec (ws := ws) h _ (by rw [hw]; exact List.mem_cons_self))
    exact ⟨meth, c, h1, h2, h3, h4, h5, h6⟩
  · intro p e s m args below meth c s₁ B hml hP _
    have hh0 : s₁.heap = s.heap := by rw [B.state]; rfl
    have ht : ∀ x ∈ c.exceptionTable.toList, False := by
      obtain ⟨meth9, c9, h1, h2, -, -, -, -, h7, -⟩ := Cond.code_spec B.named (atoms_spec (ws := ws) B.pre _ (by rw [hw]; exact List.mem_cons_self))
      cases Option.some.inj (h1.symm.trans B.method)
      cases Option.some.inj (h2.symm.trans (Stand.of_body B).code)
      intro x hx
      rw [Array.isEmpty_iff.mp h7] at hx
      cases hx
    obtain ⟨t, a1, o, b1, b2, b3⟩ := body p e s m args below meth c s₁ B hml ht hP s₁ hh0 (Stand.of_body B)
    exact ⟨t, o, a1, b1, b2, b3⟩
/-- the table of a body with handlers -/
theorem vx_table {p : Program} {x y : MethodName} {S : Spec} {cc bytes : ByteArray} {maxL maxL' : Nat} {ret ret' : Option FieldType} {e : Env} {s s₁ : State} {m : MethodId} {args : Array Value} {below : List Frame} {meth : Method} {c : Code} {hh : List (Nat × Nat × Nat × Nat)}
    (B : BodyLoose p l y S cc maxL ret e s m args below meth c s₁) (h : (Cond.codeWith y bytes maxL' ret' hh).before args s = true) : c.exceptionTable.toList = tableOf hh := by
  obtain ⟨m9, meth9, c9, hn9, h1, h2, -, -, h6, -⟩ := Cond.codeWith_spec h
  cases Option.some.inj (hn9.symm.trans B.named)
  cases Option.some.inj (h1.symm.trans B.method)
  cases Option.some.inj (h2.symm.trans (Stand.of_body B).code)
  rw [← h6, table_eq]
end Bodies
end VXA
/-! ===== END ===== -/
/-! ===== BEGIN a static call of a method with an exception table ===== -/
section VXS
variable {p : Program} {l : Launch} {e : Env} {R : Room} {s : State} {m : MethodId} {args : Array Value} {below : List Frame} {meth : Method} {c : Code} {T : State} {H : Heap} {locs : List Loc} {cells slots : Nat}
abbrev vx_CSW (R : Room) (s : State) (args : Array Value) (own : String) (index : Nat) (y : MethodName) (bytes : ByteArray) (maxL : Nat) (ret : Option FieldType) (hh : List (Nat × Nat × Nat × Nat)) (ws : List Cond) (rm : Room) (mc ms n : Nat) : Prop :=
  (rm.cells = mc ∧ rm.slots = ms ∧ rm.frames + 1 ≤ R.frames ∧ 8 + (maxL + 11) + rm.locals ≤ R.locals ∧ (∀ w ∈ ws, ∀ (a' : Array Value) (U : State), s.WarmedH U.vm → w.before a' U = true) ∧ Cond.codeWith y bytes maxL ret hh ∈ ws) ∧
  (Cond.codeWith y bytes maxL ret hh).before args s = true ∧ (Cond.initialized y.cls).before args s = true ∧ (y.cls ≠ "java/lang/invoke/MethodHandle" ∧ y.cls ≠ "java/lang/invoke/VarHandle") ∧
  (∀ sig, parseMethodDescriptor y.desc = some sig → n = sig.parameters.length) ∧ (Cond.methodLink own index y).before args s = true ∧ (Cond.static y).before args s = true
theorem vx_cwSW {own : String} {index maxL mc ms : Nat} {y : MethodName} {bytes : ByteArray} {ret : Option FieldType} {hh : List (Nat × Nat × Nat × Nat)} {Ts ws ws' : List Cond} {rm : Room} (n : Nat) (ht : ∀ w ∈ Ts, w.before args s = true) (hT : GoodIn Ts (va_wsS own index y ws)) (hw : ws = Cond.codeWith y bytes maxL ret hh :: ws') (hrc : rm.cells = mc) (hrs : rm.slots = ms)
    (hd : y.cls ≠ "java/lang/invoke/MethodHandle" ∧ y.cls ≠ "java/lang/invoke/VarHandle" ∧ (parseMethodDescriptor y.desc).map (fun d => d.parameters.length) = some n) (hR : rm.frames + 1 ≤ R.frames ∧ 8 + (maxL + 11) + rm.locals ≤ R.locals) :
    vx_CSW R s args own index y bytes maxL ret hh ws rm mc ms n := by
  have ok : ∀ w ∈ va_wsS own index y ws, w.before args s = true := fun w h => ht w (hT w h).1
  have hG : GoodIn Ts ws := fun w h => hT w (by unfold va_wsS; exact List.mem_append_right _ h)
  have hc : Cond.codeWith y bytes maxL ret hh ∈ ws := by rw [hw]; exact List.mem_cons_self
  refine ⟨⟨hrc, hrs, hR.1, hR.2, pay_in ht hG, hc⟩, ht _ (hG _ hc).1, ok _ (by simp [va_wsS]), ⟨hd.1, hd.2.1⟩, fun sig h => ?_, ok _ (by simp [va_wsS]), ok _ (by simp [va_wsS])⟩
  have h2 := hd.2.2
  rw [h] at h2
  exact (Option.some.inj h2).symm
theorem vx_callSW (X : Stand p l e R s m args below meth c T locs cells slots) (hexec : p.tables.exec = Jvm.exec) {own : String} {index : Nat} {y : MethodName} {bytes : ByteArray} {maxL : Nat} {ret : Option FieldType} {hh : List (Nat × Nat × Nat × Nat)}
    (hown : s.vm.findClass own = some m.cls) (hlink : (Cond.methodLink own index y).before args s = true) (hstat : (Cond.static y).before args s = true) (hinit : (Cond.initialized y.cls).before args s = true)
    (hcode : (Cond.codeWith y bytes maxL ret hh).before args s = true) (hy : y.cls ≠ "java/lang/invoke/MethodHandle" ∧ y.cls ≠ "java/lang/invoke/VarHandle")
    {W9 : Nat} {Pre : Pt → Array Value → Prop} {Post : Pt → Array Value → Option Value → Pt → Prop} (hK : Back l R p e below s args y 3 W9 Pre Post)
    {g : JFrame} (hg : g.method = m) (hsize : g.locals.size = c.maxLocals) {argsL rest : List Value} (hlen : ∀ sig, parseMethodDescriptor y.desc = some sig → argsL.length = sig.parameters.length)
    (hstack : g.stack = argsL.reverse ++ rest) (hW : 2 * g.monitorRoom + (rest.map fun v => v.category).sum ≤ W9) (hdg : decode c.code g.pc = .ok (.invokestatic index, 3))
    (hpre : ∀ vm₁, s.WarmedH vm₁ → Pre ⟨T.setVm vm₁, locs, cells, slots⟩ argsL.toArray) :
    ∃ (v : Option Value) (vm₁ : Vm) (B : Pt), s.WarmedH vm₁ ∧ Stand p l e R s m args below meth c B.U B.locs B.cells B.slots ∧ Post ⟨T.setVm vm₁, locs, cells, slots⟩ argsL.toArray v B ∧
      ∀ target, Steps p.tables e below (B.U.setTop { g with pc := g.pc + 3, stack := v.toList ++ rest }) target → Steps p.tables e below (T.setTop g) target := by
  obtain ⟨mk, methM, cM, hnamed, hmethM, -, -, -, -, -, -, hsigM⟩ := Cond.codeWith_spec hcode
  have hstatic : methM.isStatic = true := Cond.static_spec hnamed hmethM hstat
  obtain ⟨kP, hkP, -⟩ := className_of_methodNamed hnamed
  have hinitP : kP.init = .initialized := Cond.initialized_spec (findClass_of_methodNamed hnamed) hkP hinit
  obtain ⟨vm₁, X₁, hstep₁⟩ := X.invokestatic hexec hown hlink hnamed hmethM hstatic hkP hinitP hy (g := g) hg (argsL := argsL) (rest := rest) (hlen _ hsigM) hstack hdg
  obtain ⟨v, B, X', hpost, hsteps⟩ := hK m meth c ⟨T.setVm vm₁, locs, cells, slots⟩ { g with stack := rest } (.invokestatic index) mk argsL.toArray X₁ hg hsize hdg hW (X₁.named hnamed) (hpre vm₁ X₁.warmed)
  exact ⟨v, vm₁, B, X₁.warmed, X', hpost, fun target h => hstep₁ _ fun acts => by rw [doInvoke_state]; exact hsteps.trans h⟩
theorem vx_runSW {y : MethodName} {bytes cc : ByteArray} {maxL nL mc ms n index : Nat} {ret : Option FieldType} {hh : List (Nat × Nat × Nat × Nat)} {ws : List Cond} {rm : Room} {Pc : Array Value → State → Prop} {Qc : Array Value → State → Outcome → State → Prop} {free : Addr → Prop} {Ts : List Cond} {own : String} {As rest : List Value} {g : JFrame}
    (S : CallFix p m c cc nL s args Ts own) (hM : Met l y ws rm Pc Qc mc ms free) (cw : vx_CSW R s args own index y bytes maxL ret hh ws rm mc ms n) (hp : PreS s H Pc As)
    (hg : g.method = m) (hn : As.length = n) (hsize : g.locals.size = nL) (hstack : g.stack = As.reverse ++ rest) (hW : 2 * g.monitorRoom + (rest.map fun v => v.category).sum ≤ 8) (hdg : decode cc g.pc = .ok (.invokestatic index, 3)) (hf : cells + mc ≤ R.cells ∧ slots + ms ≤ R.slots) :
    va_Run p l e R s m args below meth c H locs cells slots mc ms g rest (Qc As.toArray) (free) := by
  obtain ⟨⟨hrc, hrs, hfr, hlo, hws, hcw⟩, hcode, hini, hy, hlen, hl, hstt⟩ := cw
  have hK : Back l R p e below s args y 3 8 (PreOf R mc ms Pc) (PostOf Qc mc ms free) := va_backW (hh := hh) (bytes := bytes) (maxL := maxL) (ret := ret) hM hp.1 hrc hrs hfr hlo hws hcw (fun a' U hW => word_at hW (Or.inl (by first | rfl | simp [Cond.onTables, Cond.keeps, Cond.steady])) hini)
  obtain ⟨hx, hb, hml, ho, -⟩ := S
  intro T hT X
  obtain ⟨v, vm₁, ⟨U', l2, c2, s2⟩, hW₁, X', ⟨g', mk, t, L, e1, e2, hq, h1, hL, h2, h3⟩, st⟩ := vx_callSW X hx (hh := hh) (bytes := bytes) (maxL := maxL) (ret := ret) ho hl hstt hini hcode hy hK hg (hsize.trans hml.symm) (argsL := As) (rest := rest) (fun sig h => hn.trans (hlen sig h)) hstack hW (by rw [hb]; exact hdg)
    (fun vm₁ hW₁ => ⟨hf.1, hf.2, hp.2 (T.setVm vm₁) hT hW₁⟩)
  dsimp only [Pt.U, Pt.locs, Pt.cells, Pt.slots] at X' e1 e2 h1 h2 h3 st
  subst h1; subst h2; subst h3
  exact ⟨v, (T.setVm vm₁).calling g' mk As.toArray, t, U', L, hT, X', hL, e1, e2, hq, st⟩
/-- not caught here, past rows that name other classes: it goes on to the caller -/
theorem vx_outP {p : Program} {l : Launch} {e : Env} {R : Room} {s : State} {m : MethodId} {args : Array Value} {below : List Frame} {meth : Method} {c : Code} {H : Heap} {locs : List Loc} {cells slots : Nat} {free : Addr → Prop} {ls : Array Slot} {rest : List Value} {Qc : Array Value → State → Outcome → State → Prop} {XC : String → State → State → Prop}
    {pc : Nat} {own E : String} {ce : Cell} {q : Addr} {mc ms : Nat} (hown : s.vm.findClass own = some m.cls) (hlocks : meth.locks = false)
    (hpass : ∀ z ∈ c.exceptionTable.toList, covers z pc = false ∨ (z.catchType ≠ 0 ∧ ∃ nm : String, (Cond.classLink own z.catchType nm).before args s = true ∧ va_Nc E nm s)) (hcell : H[q]? = some ce) (hv : ce.vm = .none) (hcl : s.vm.findClass E = some ce.cls)
    (hx : ∀ t : State, t.heap = H → s.vm.Alike t.vm → XC E s t) (hf : ∀ z ∈ locs, free z.base) (hc : cells ≤ mc) (hs : slots ≤ ms) :
    vx_W p l e R s m args below meth c H locs cells slots (vx_MQ below Qc XC args s mc ms free) (F0 m pc ls rest) q := by
  intro T hT X
  have hpl : e.platform.magicAccessors = ({} : Platform).magicAccessors := by rw [X.admits.platform]
  obtain ⟨vm', hW', X', st⟩ := X.outThrough hlocks q (g := F0 m pc ls rest) rfl rfl rfl (cell := ce) (by rw [hT]; exact hcell) (by rw [hv]; rfl)
    (by obtain ⟨k9, h9, -⟩ := Vm.findClass_spec hcl; exact ⟨k9, h9⟩) (fun z hz => by
      rcases hpass z hz with h | ⟨hz0, nm, hl1, hn1⟩
      · exact Or.inl h
      · obtain ⟨c6, hc6, hcl6⟩ := Cond.classLink_spec hown hl1 e.platform hpl
        obtain ⟨a8, b8, h1, h2, h3⟩ := hn1
        cases Option.some.inj (h1.symm.trans hcl)
        cases Option.some.inj (h2.symm.trans hc6)
        exact Or.inr ⟨hz0, _, hcl6, h3⟩)
  obtain ⟨g₀, hfr⟩ := X'.frames_eq
  have hcell9 : ((T.setVm vm').setFrames (.throwing q :: below)).heap[q]? = some ce := by
    show T.heap[q]? = some ce
    rw [hT]; exact hcell
  have hend : Ended ((T.setVm vm').setFrames (.throwing q :: below)) below (.threw q) := State.frames_setFrames _ (State.cur_lt_of_frames hfr)
  refine ⟨(T.setVm vm').setFrames (.throwing q :: below), ?_, .threw q, X'.here.running, hend, Or.inr ⟨q, rfl, E, ce, locs, hx _ hT (X'.ends _).1.alike, hcell9, hv, hcl, (X'.ends _).1, (X'.ends _).2.mono hc hs, hf⟩⟩
  rw [X.pushThrowing_eq]
  exact st
/-- a thing of a world lies in the heap -/
theorem vx_lt {D : va_G} {cl : List vw_C} {ws : va_W} {H1 : Heap} (h : va_P D cl ws H1) {k : Nat} {q : Nat × va_E} (hk : ws[k]? = some q) : q.1 < H1.size := (h k q hk).lt
end VXS
/-! ===== END ===== -/
/-! ===== BEGIN methods with a table of their own: called by a name, returning or throwing ===== -/
section VXH
/-! vx_backW, vx_callVX, vx_callSX, vx_callVW, vx_runVW, vx_runVX, vx_runSX, vx_ofWH follow the same proofs as their sisters above (Free/Laws.lean, Shelf42/LK1.lean); vx_outP calls Shelf42/NT130.lean (outThrough). -/
section
variable {l : Launch} {R : Room} {p : Program} {e : Env} {below : List Frame} {s : State} {sargs : Array Value} {y : MethodName} {len W9 : Nat}
theorem vx_backW {ws : List Cond} {rm : Room} {Pc : Array Value → State → Prop} {Qc : Array Value → State → Outcome → State → Prop} {XC : String → State → State → Prop} {mc ms : Nat} {free : Addr → Prop} {bytes : ByteArray} {maxL : Nat} {ret : Option FieldType} {hh : List (Nat × Nat × Nat × Nat)}
    (hM : vx_Met l y ws rm Pc Qc XC mc ms free) (hblind : FrameBlind Pc) (hrc : rm.cells = mc) (hrs : rm.slots = ms)
    (hframes : rm.frames + 1 ≤ R.frames) (hlocals : W9 + (maxL + 11) + rm.locals ≤ R.locals)
    (hws : ∀ w ∈ ws, ∀ a' U, s.WarmedH U.vm → w.before a' U = true) (hcode : Cond.codeWith y bytes maxL ret hh ∈ ws) (hinit : ∀ a' U, s.WarmedH U.vm → (Cond.initialized y.cls).before a' U = true) :
    vx_Back l R p e below s sargs y len W9 (PreOf R mc ms Pc) (PostOf Qc mc ms free) (vx_Post XC mc ms free) := by
  intro m meth c A g ig mk a X hg hsize hdg hW hn hp
  have h1 : (headSpec ws rm).pre.before a A.U = true := atoms_intro fun w hw => hws w hw _ _ X.warmed
  have h2 : (Cond.codeWith y bytes maxL ret hh).before a A.U = true := hws _ hcode _ _ X.warmed
  have h3 : (Cond.initialized y.cls).before a A.U = true := hinit _ _ X.warmed
  have h4 : A.cells + (headSpec ws rm).room.cells ≤ R.cells := by rw [show (headSpec ws rm).room.cells = mc from hrc]; exact hp.1
  have h5 : A.slots + (headSpec ws rm).room.slots ≤ R.slots := by rw [show (headSpec ws rm).room.slots = ms from hrs]; exact hp.2.1
  have hPc : Pc a (A.U.calling g mk a) := hblind _ _ _ _ hp.2.2
  obtain ⟨U, Ls, c0, s0⟩ := A
  dsimp only [Pt.U, Pt.locs, Pt.cells, Pt.slots] at h1 h2 h3 h4 h5 X hn hPc ⊢
  obtain ⟨m9, methY, cY, hn9, hmY, hcY, -, hlY, -⟩ := Cond.codeWith_spec h2
  cases Option.some.inj (hn9.symm.trans hn)
  obtain ⟨kY, hkY, -⟩ := className_of_methodNamed hn
  have hinitY : kY.init = .initialized := Cond.initialized_spec (findClass_of_methodNamed hn) hkY h3
  have h : At U g.method c below := by rw [hg]; exact X.here
  have hlocals9 : W9 + (maxL + 11) + (headSpec ws rm).room.locals ≤ R.locals := hlocals
  have happ : (headSpec ws rm).appliesLoose y e.platform (U.calling g mk a) = true :=
    Spec.appliesLoose_calling (g := g) h hdg hn hkY hinitY
      (X.room_calling (g := g) (R' := (headSpec ws rm).room) hsize hmY hcY hframes (by rw [hlY]; omega) h4 h5) h1
  obtain ⟨mid, hmid⟩ := h.above
  have hfr : (U.setTop g).frames = (.java g :: mid) ++ below := by rw [State.frames_setTop' g h.top, hmid]; rfl
  obtain ⟨o, s₂, hsteps, -, hend, hq⟩ := Steps.callFree hM p X.admits X.cas X.clock (acts := []) hfr happ hPc trivial
  have hq' : vx_Q Qc XC mc ms free a (U.calling g mk a) o s₂ := hq
  rw [State.frames_setTop' g h.top] at hend
  obtain ⟨g₀, hg0⟩ := Option.isSome_iff_exists.mp h.top
  obtain ⟨r, hr⟩ := State.topJava?_eq_some.mp hg0
  have hr' : (({ U with heap := s₂.heap, slotsUsed := s₂.slotsUsed } : State).setVm s₂.vm).frames = .java g₀ :: r := hr
  rcases hq' with ⟨hqc, L, hfe, hL⟩ | ⟨q, rfl, E, ce, L, hx, hce, hcv, hcl, hW₂, hsm, hL⟩
  · obtain ⟨⟨v, rfl⟩, hW₂, e2, q2, q3, q4, q5, q6⟩ := id hfe
    have e3 : s₂ = ({ (U.calling g mk a).setFrames s₂.frames with heap := s₂.heap, slotsUsed := s₂.slotsUsed } : State).setVm s₂.vm := by
      have : s₂ = ({ s₂ with vm := (U.calling g mk a).vm } : State).setVm s₂.vm := rfl
      rw [e2] at this
      exact this
    obtain ⟨c₂, i₂, len₂, hc₂, hd₂, hf₂⟩ := hend
    have hW' : U.WarmedH s₂.vm := hW₂
    have hcc : c₂ = c := by
      have h1 : s₂.code? g.method = U.code? g.method := by
        rw [State.code?_eq, State.code?_eq, hW'.alike.method?]
      exact Option.some.inj (hc₂.symm.trans (h1.trans h.code))
    subst hcc
    have hlen : len₂ = len := by rw [hdg] at hd₂; cases hd₂; rfl
    subst hlen
    have hs₂ : s₂ = (({ U with heap := s₂.heap, slotsUsed := s₂.slotsUsed } : State).setVm s₂.vm).setTop { g with pc := g.pc + len₂, stack := v.toList ++ g.stack } := by
      refine e3.trans ?_
      rw [hf₂, State.calling_eq h.top, State.setFrames_setFrames, State.setTop_of_frames _ hr', hr]
      rfl
    have hsame : U.sameButNew ({ U with heap := s₂.heap, slotsUsed := s₂.slotsUsed } : State) L mc ms := by
      refine ⟨?_, q2, q3, q4, q5, q6⟩
      obtain ⟨t, ht, -⟩ := State.frames_cons hr
      show ({ U with heap := s₂.heap, slotsUsed := s₂.slotsUsed } : State) = { U.setFrames U.frames with heap := s₂.heap, slotsUsed := s₂.slotsUsed }
      rw [State.setFrames_self ht]
    subst hg
    refine Or.inl ⟨v, ⟨(({ U with heap := s₂.heap, slotsUsed := s₂.slotsUsed } : State).setVm s₂.vm), Ls ++ L, c0 + mc, s0 + ms⟩,
      ⟨X.admits, X.cas, X.clock, X.frames, X.room, X.hears, X.method, X.code, (X.here.setHeapUsed s₂.heap s₂.slotsUsed).setVm hW'.alike, X.tail, State.WarmedH.trans X.warmed hW', X.limits, X.bytes, X.same.trans (hsame.setVm s.vm)⟩,
      ⟨g, mk, s₂, L, rfl, rfl, hqc, rfl, hL, rfl, rfl⟩, ?_⟩
    show Steps p.tables e below _ ((({ U with heap := s₂.heap, slotsUsed := s₂.slotsUsed } : State).setVm s₂.vm).setTop { g with pc := g.pc + len₂, stack := v.toList ++ g.stack })
    rw [← hs₂]
    exact hsteps
  · obtain ⟨e2, q2, q3, q4, q5, q6⟩ := id hsm
    have e3 : s₂ = ({ (U.calling g mk a).setFrames s₂.frames with heap := s₂.heap, slotsUsed := s₂.slotsUsed } : State).setVm s₂.vm := by
      have : s₂ = ({ s₂ with vm := (U.calling g mk a).vm } : State).setVm s₂.vm := rfl
      rw [e2] at this
      exact this
    have hf₂ : s₂.frames = .throwing q :: .java g :: U.frames.tail := hend
    have hW' : U.WarmedH s₂.vm := hW₂
    have hs₂ : s₂ = ((({ U with heap := s₂.heap, slotsUsed := s₂.slotsUsed } : State).setVm s₂.vm).setTop g).pushFrame (.throwing q) := by
      refine e3.trans ?_
      rw [hf₂, State.calling_eq h.top, State.setFrames_setFrames, State.pushFrame, State.frames_setTop _ hr', State.setTop_of_frames _ hr', State.setFrames_setFrames, hr]
      rfl
    have hsame : U.sameButNew ({ U with heap := s₂.heap, slotsUsed := s₂.slotsUsed } : State) L mc ms := by
      refine ⟨?_, q2, q3, q4, q5, q6⟩
      obtain ⟨t, ht, -⟩ := State.frames_cons hr
      show ({ U with heap := s₂.heap, slotsUsed := s₂.slotsUsed } : State) = { U.setFrames U.frames with heap := s₂.heap, slotsUsed := s₂.slotsUsed }
      rw [State.setFrames_self ht]
    subst hg
    refine Or.inr ⟨q, ⟨(({ U with heap := s₂.heap, slotsUsed := s₂.slotsUsed } : State).setVm s₂.vm), Ls ++ L, c0 + mc, s0 + ms⟩,
      ⟨X.admits, X.cas, X.clock, X.frames, X.room, X.hears, X.method, X.code, (X.here.setHeapUsed s₂.heap s₂.slotsUsed).setVm hW'.alike, X.tail, State.WarmedH.trans X.warmed hW', X.limits, X.bytes, X.same.trans (hsame.setVm s.vm)⟩,
      ⟨g, mk, s₂, L, E, ce, rfl, rfl, hx, hce, hcv, hcl, rfl, hL, rfl, rfl⟩, ?_⟩
    show Steps p.tables e below _ (((({ U with heap := s₂.heap, slotsUsed := s₂.slotsUsed } : State).setVm s₂.vm).setTop g).pushFrame (.throwing q))
    rw [← hs₂]
    exact hsteps
end
variable {p : Program} {l : Launch} {e : Env} {R : Room} {s : State} {m : MethodId} {args : Array Value} {below : List Frame} {meth : Method} {c : Code} {T : State} {H : Heap} {locs : List Loc} {cells slots : Nat}
theorem vx_callVX (X : Stand p l e R s m args below meth c T locs cells slots) (hexec : p.tables.exec = Jvm.exec) {own C : String} {index : Nat} {y : MethodName} {bytes : ByteArray} {maxL : Nat} {ret : Option FieldType} {hh : List (Nat × Nat × Nat × Nat)}
    (hown : s.vm.findClass own = some m.cls) (hlink : (Cond.methodLink own index y).before args s = true) (hinst : (Cond.instanceMethod y).before args s = true) (hsel : (Cond.selects C y y).before args s = true)
    (hcode : (Cond.codeWith y bytes maxL ret hh).before args s = true) (hy : y.cls ≠ "java/lang/invoke/MethodHandle" ∧ y.cls ≠ "java/lang/invoke/VarHandle")
    {W9 : Nat} {Pre : Pt → Array Value → Prop} {Post : Pt → Array Value → Option Value → Pt → Prop} {PostX : Pt → Array Value → Addr → Pt → Prop} (hK : vx_Back l R p e below s args y 3 W9 Pre Post PostX)
    {b : Addr} {cellB : Cell} (hcell : T.heap[b]? = some cellB) (hobj : cellB.vm.isStatics = false) (hcls : s.vm.findClass C = some cellB.cls)
    {g : JFrame} (hg : g.method = m) (hsize : g.locals.size = c.maxLocals) {argsL rest : List Value} (hlen : ∀ sig, parseMethodDescriptor y.desc = some sig → argsL.length = sig.parameters.length)
    (hstack : g.stack = argsL.reverse ++ .ref b :: rest) (hW : 2 * g.monitorRoom + (rest.map fun v => v.category).sum ≤ W9) (hdg : decode c.code g.pc = .ok (.invokevirtual index, 3))
    (hpre : ∀ vm₁, s.WarmedH vm₁ → Pre ⟨T.setVm vm₁, locs, cells, slots⟩ (Value.ref b :: argsL).toArray) :
    (∃ (v : Option Value) (vm₁ : Vm) (B : Pt), s.WarmedH vm₁ ∧ Stand p l e R s m args below meth c B.U B.locs B.cells B.slots ∧ Post ⟨T.setVm vm₁, locs, cells, slots⟩ (Value.ref b :: argsL).toArray v B ∧
      ∀ target, Steps p.tables e below (B.U.setTop { g with pc := g.pc + 3, stack := v.toList ++ rest }) target → Steps p.tables e below (T.setTop g) target) ∨
    (∃ (q : Addr) (vm₁ : Vm) (B : Pt), s.WarmedH vm₁ ∧ Stand p l e R s m args below meth c B.U B.locs B.cells B.slots ∧ PostX ⟨T.setVm vm₁, locs, cells, slots⟩ (Value.ref b :: argsL).toArray q B ∧
      Steps p.tables e below (T.setTop g) ((B.U.setTop { g with stack := rest }).pushFrame (.throwing q))) := by
  obtain ⟨mk, methM, hnamed, hmethM, hstM, habM⟩ := Cond.instanceMethod_spec hinst
  obtain ⟨m8, methM', cM, hn8, hmethM', -, -, -, -, -, -, hsigM⟩ := Cond.codeWith_spec hcode
  cases Option.some.inj (hn8.symm.trans hnamed)
  cases hmethM.symm.trans hmethM'
  obtain ⟨c2, r2, m2, q1, q2, q3, q4, kP, hkP, hkPi⟩ := Cond.selects_spec hsel
  cases hcls.symm.trans q1
  cases (State.methodFound?_of_named hnamed hy).symm.trans q2
  cases hnamed.symm.trans q3
  have hselP : selectMethod e.platform s.vm cellB.cls mk = .method mk := by rw [Launch.admits_selectMethod X.admits]; exact q4
  obtain ⟨vm₁, X₁, hstep₁⟩ := X.invokevirtual hexec hown hlink hnamed hmethM hstM hkP hkPi hy (a := b) (cell := cellB) hcell
    (fun z h => by rw [h] at hobj; cases hobj) hselP hmethM habM hkP hkPi (g := g) hg (argsL := argsL) (rest := rest) (hlen _ hsigM) hstack hdg
  rcases hK m meth c ⟨T.setVm vm₁, locs, cells, slots⟩ { g with stack := rest } (.invokevirtual index) mk (Value.ref b :: argsL).toArray X₁ hg hsize hdg hW (X₁.named hnamed) (hpre vm₁ X₁.warmed) with ⟨v, B, X', hpost, hsteps⟩ | ⟨q, B, X', hpost, hsteps⟩
  · exact Or.inl ⟨v, vm₁, B, X₁.warmed, X', hpost, fun target h => hstep₁ _ fun acts => by rw [doInvoke_state]; exact hsteps.trans h⟩
  · exact Or.inr ⟨q, vm₁, B, X₁.warmed, X', hpost, hstep₁ _ fun acts => by rw [doInvoke_state]; exact hsteps⟩
theorem vx_callSX (X : Stand p l e R s m args below meth c T locs cells slots) (hexec : p.tables.exec = Jvm.exec) {own : String} {index : Nat} {y : MethodName} {bytes : ByteArray} {maxL : Nat} {ret : Option FieldType} {hh : List (Nat × Nat × Nat × Nat)}
    (hown : s.vm.findClass own = some m.cls) (hlink : (Cond.methodLink own index y).before args s = true) (hstat : (Cond.static y).before args s = true) (hinit : (Cond.initialized y.cls).before args s = true)
    (hcode : (Cond.codeWith y bytes maxL ret hh).before args s = true) (hy : y.cls ≠ "java/lang/invoke/MethodHandle" ∧ y.cls ≠ "java/lang/invoke/VarHandle")
    {W9 : Nat} {Pre : Pt → Array Value → Prop} {Post : Pt → Array Value → Option Value → Pt → Prop} {PostX : Pt → Array Value → Addr → Pt → Prop} (hK : vx_Back l R p e below s args y 3 W9 Pre Post PostX)
    {g : JFrame} (hg : g.method = m) (hsize : g.locals.size = c.maxLocals) {argsL rest : List Value} (hlen : ∀ sig, parseMethodDescriptor y.desc = some sig → argsL.length = sig.parameters.length)
    (hstack : g.stack = argsL.reverse ++ rest) (hW : 2 * g.monitorRoom + (rest.map fun v => v.category).sum ≤ W9) (hdg : decode c.code g.pc = .ok (.invokestatic index, 3))
    (hpre : ∀ vm₁, s.WarmedH vm₁ → Pre ⟨T.setVm vm₁, locs, cells, slots⟩ argsL.toArray) :
    (∃ (v : Option Value) (vm₁ : Vm) (B : Pt), s.WarmedH vm₁ ∧ Stand p l e R s m args below meth c B.U B.locs B.cells B.slots ∧ Post ⟨T.setVm vm₁, locs, cells, slots⟩ argsL.toArray v B ∧
      ∀ target, Steps p.tables e below (B.U.setTop { g with pc := g.pc + 3, stack := v.toList ++ rest }) target → Steps p.tables e below (T.setTop g) target) ∨
    (∃ (q : Addr) (vm₁ : Vm) (B : Pt), s.WarmedH vm₁ ∧ Stand p l e R s m args below meth c B.U B.locs B.cells B.slots ∧ PostX ⟨T.setVm vm₁, locs, cells, slots⟩ argsL.toArray q B ∧
      Steps p.tables e below (T.setTop g) ((B.U.setTop { g with stack := rest }).pushFrame (.throwing q))) := by
  obtain ⟨mk, methM, cM, hnamed, hmethM, -, -, -, -, -, -, hsigM⟩ := Cond.codeWith_spec hcode
  have hstatic : methM.isStatic = true := Cond.static_spec hnamed hmethM hstat
  obtain ⟨kP, hkP, -⟩ := className_of_methodNamed hnamed
  have hinitP : kP.init = .initialized := Cond.initialized_spec (findClass_of_methodNamed hnamed) hkP hinit
  obtain ⟨vm₁, X₁, hstep₁⟩ := X.invokestatic hexec hown hlink hnamed hmethM hstatic hkP hinitP hy (g := g) hg (argsL := argsL) (rest := rest) (hlen _ hsigM) hstack hdg
  rcases hK m meth c ⟨T.setVm vm₁, locs, cells, slots⟩ { g with stack := rest } (.invokestatic index) mk argsL.toArray X₁ hg hsize hdg hW (X₁.named hnamed) (hpre vm₁ X₁.warmed) with ⟨v, B, X', hpost, hsteps⟩ | ⟨q, B, X', hpost, hsteps⟩
  · exact Or.inl ⟨v, vm₁, B, X₁.warmed, X', hpost, fun target h => hstep₁ _ fun acts => by rw [doInvoke_state]; exact hsteps.trans h⟩
  · exact Or.inr ⟨q, vm₁, B, X₁.warmed, X', hpost, hstep₁ _ fun acts => by rw [doInvoke_state]; exact hsteps⟩
theorem vx_callVW (X : Stand p l e R s m args below meth c T locs cells slots) (hexec : p.tables.exec = Jvm.exec) {own C : String} {index : Nat} {y : MethodName} {bytes : ByteArray} {maxL : Nat} {ret : Option FieldType} {hh : List (Nat × Nat × Nat × Nat)}
    (hown : s.vm.findClass own = some m.cls) (hlink : (Cond.methodLink own index y).before args s = true) (hinst : (Cond.instanceMethod y).before args s = true) (hsel : (Cond.selects C y y).before args s = true)
    (hcode : (Cond.codeWith y bytes maxL ret hh).before args s = true) (hy : y.cls ≠ "java/lang/invoke/MethodHandle" ∧ y.cls ≠ "java/lang/invoke/VarHandle")
    {W9 : Nat} {Pre : Pt → Array Value → Prop} {Post : Pt → Array Value → Option Value → Pt → Prop} (hK : Back l R p e below s args y 3 W9 Pre Post)
    {b : Addr} {cellB : Cell} (hcell : T.heap[b]? = some cellB) (hobj : cellB.vm.isStatics = false) (hcls : s.vm.findClass C = some cellB.cls)
    {g : JFrame} (hg : g.method = m) (hsize : g.locals.size = c.maxLocals) {argsL rest : List Value} (hlen : ∀ sig, parseMethodDescriptor y.desc = some sig → argsL.length = sig.parameters.length)
    (hstack : g.stack = argsL.reverse ++ .ref b :: rest) (hW : 2 * g.monitorRoom + (rest.map fun v => v.category).sum ≤ W9) (hdg : decode c.code g.pc = .ok (.invokevirtual index, 3))
    (hpre : ∀ vm₁, s.WarmedH vm₁ → Pre ⟨T.setVm vm₁, locs, cells, slots⟩ (Value.ref b :: argsL).toArray) :
    ∃ (v : Option Value) (vm₁ : Vm) (B : Pt), s.WarmedH vm₁ ∧ Stand p l e R s m args below meth c B.U B.locs B.cells B.slots ∧ Post ⟨T.setVm vm₁, locs, cells, slots⟩ (Value.ref b :: argsL).toArray v B ∧
      ∀ target, Steps p.tables e below (B.U.setTop { g with pc := g.pc + 3, stack := v.toList ++ rest }) target → Steps p.tables e below (T.setTop g) target := by
  obtain ⟨mk, methM, hnamed, hmethM, hstM, habM⟩ := Cond.instanceMethod_spec hinst
  obtain ⟨m8, methM', cM, hn8, hmethM', -, -, -, -, -, -, hsigM⟩ := Cond.codeWith_spec hcode
  cases Option.some.inj (hn8.symm.trans hnamed)
  cases hmethM.symm.trans hmethM'
  obtain ⟨c2, r2, m2, q1, q2, q3, q4, kP, hkP, hkPi⟩ := Cond.selects_spec hsel
  cases hcls.symm.trans q1
  cases (State.methodFound?_of_named hnamed hy).symm.trans q2
  cases hnamed.symm.trans q3
  have hselP : selectMethod e.platform s.vm cellB.cls mk = .method mk := by rw [Launch.admits_selectMethod X.admits]; exact q4
  obtain ⟨vm₁, X₁, hstep₁⟩ := X.invokevirtual hexec hown hlink hnamed hmethM hstM hkP hkPi hy (a := b) (cell := cellB) hcell
    (fun z h => by rw [h] at hobj; cases hobj) hselP hmethM habM hkP hkPi (g := g) hg (argsL := argsL) (rest := rest) (hlen _ hsigM) hstack hdg
  obtain ⟨v, B, X', hpost, hsteps⟩ := hK m meth c ⟨T.setVm vm₁, locs, cells, slots⟩ { g with stack := rest } (.invokevirtual index) mk (Value.ref b :: argsL).toArray X₁ hg hsize hdg hW (X₁.named hnamed) (hpre vm₁ X₁.warmed)
  exact ⟨v, vm₁, B, X₁.warmed, X', hpost, fun target h => hstep₁ _ fun acts => by rw [doInvoke_state]; exact hsteps.trans h⟩
abbrev vx_CVW (R : Room) (s : State) (args : Array Value) (own C : String) (index : Nat) (y : MethodName) (bytes : ByteArray) (maxL : Nat) (ret : Option FieldType) (hh : List (Nat × Nat × Nat × Nat)) (ws : List Cond) (rm : Room) (mc ms n : Nat) : Prop :=
  (rm.cells = mc ∧ rm.slots = ms ∧ rm.frames + 1 ≤ R.frames ∧ 8 + (maxL + 11) + rm.locals ≤ R.locals ∧ (∀ w ∈ ws, ∀ (a' : Array Value) (U : State), s.WarmedH U.vm → w.before a' U = true) ∧ Cond.codeWith y bytes maxL ret hh ∈ ws) ∧
  (Cond.codeWith y bytes maxL ret hh).before args s = true ∧ (Cond.initialized y.cls).before args s = true ∧ (y.cls ≠ "java/lang/invoke/MethodHandle" ∧ y.cls ≠ "java/lang/invoke/VarHandle") ∧
  (∀ sig, parseMethodDescriptor y.desc = some sig → n = sig.parameters.length) ∧ (Cond.methodLink own index y).before args s = true ∧ (Cond.instanceMethod y).before args s = true ∧ (Cond.selects C y y).before args s = true
theorem vx_cwVW {own C : String} {index maxL mc ms : Nat} {y : MethodName} {bytes : ByteArray} {ret : Option FieldType} {hh : List (Nat × Nat × Nat × Nat)} {Ts ws ws' : List Cond} {rm : Room} (n : Nat) (ht : ∀ w ∈ Ts, w.before args s = true) (hT : GoodIn Ts (wsV own index C y ws)) (hw : ws = Cond.codeWith y bytes maxL ret hh :: ws') (hrc : rm.cells = mc) (hrs : rm.slots = ms)
    (hd : y.cls = C ∧ y.cls ≠ "java/lang/invoke/MethodHandle" ∧ y.cls ≠ "java/lang/invoke/VarHandle" ∧ (parseMethodDescriptor y.desc).map (fun d => d.parameters.length) = some n) (hR : rm.frames + 1 ≤ R.frames ∧ 8 + (maxL + 11) + rm.locals ≤ R.locals) :
    vx_CVW R s args own C index y bytes maxL ret hh ws rm mc ms n := by
  obtain ⟨hC, hd⟩ := hd
  subst hC
  have ok : ∀ w ∈ wsV own index y.cls y ws, w.before args s = true := fun w h => ht w (hT w h).1
  have hG : GoodIn Ts ws := fun w h => hT w (by unfold wsV; exact List.mem_append_right _ h)
  have hc : Cond.codeWith y bytes maxL ret hh ∈ ws := by rw [hw]; exact List.mem_cons_self
  refine ⟨⟨hrc, hrs, hR.1, hR.2, pay_in ht hG, hc⟩, ht _ (hG _ hc).1, ok _ (by simp [wsV]), ⟨hd.1, hd.2.1⟩, fun sig h => ?_, ok _ (by simp [wsV]), ok _ (by simp [wsV]), ok _ (by simp [wsV])⟩
  have h2 := hd.2.2
  rw [h] at h2
  exact (Option.some.inj h2).symm
theorem vx_runVW {y : MethodName} {bytes cc : ByteArray} {maxL nL mc ms n index : Nat} {ret : Option FieldType} {hh : List (Nat × Nat × Nat × Nat)} {ws : List Cond} {rm : Room} {Pc : Array Value → State → Prop} {Qc : Array Value → State → Outcome → State → Prop} {free : Addr → Prop} {Ts : List Cond} {own C : String} {b : Addr} {As rest : List Value} {g : JFrame}
    (S : CallFix p m c cc nL s args Ts own) (hM : Met l y ws rm Pc Qc mc ms free) (cw : vx_CVW R s args own C index y bytes maxL ret hh ws rm mc ms n) (hp : PreV s H C b Pc As)
    (hg : g.method = m) (hn : As.length = n) (hsize : g.locals.size = nL) (hstack : g.stack = As.reverse ++ .ref b :: rest) (hW : 2 * g.monitorRoom + (rest.map fun v => v.category).sum ≤ 8) (hdg : decode cc g.pc = .ok (.invokevirtual index, 3)) (hf : cells + mc ≤ R.cells ∧ slots + ms ≤ R.slots) :
    va_Run p l e R s m args below meth c H locs cells slots mc ms g rest (Qc (Value.ref b :: As).toArray) free := by
  obtain ⟨⟨hrc, hrs, hfr, hlo, hws, hcw⟩, hcode, hini, hy, hlen, hl, hin, hse⟩ := cw
  have hK : Back l R p e below s args y 3 8 (PreOf R mc ms Pc) (PostOf Qc mc ms free) := va_backW (hh := hh) (bytes := bytes) (maxL := maxL) (ret := ret) hM hp.1 hrc hrs hfr hlo hws hcw (fun a' U hW => word_at hW (Or.inl (by first | rfl | simp [Cond.onTables, Cond.keeps, Cond.steady])) hini)
  obtain ⟨hx, hb, hml, ho, -⟩ := S
  obtain ⟨-, ⟨cellB, hcB, hoB, hclB⟩, hPc⟩ := hp
  intro T hT X
  obtain ⟨v, vm₁, ⟨U', l2, c2, s2⟩, hW₁, X', ⟨g', mk, t, L, e1, e2, hq, h1, hL, h2, h3⟩, st⟩ := vx_callVW X hx (C := C) (hh := hh) (bytes := bytes) (maxL := maxL) (ret := ret) ho hl hin hse hcode hy hK (by rw [hT]; exact hcB) hoB hclB hg (hsize.trans hml.symm) (argsL := As) (rest := rest) (fun sig h => hn.trans (hlen sig h)) hstack hW (by rw [hb]; exact hdg)
    (fun vm₁ hW₁ => ⟨hf.1, hf.2, hPc (T.setVm vm₁) hT hW₁⟩)
  dsimp only [Pt.U, Pt.locs, Pt.cells, Pt.slots] at X' e1 e2 h1 h2 h3 st
  subst h1; subst h2; subst h3
  exact ⟨v, (T.setVm vm₁).calling g' mk (Value.ref b :: As).toArray, t, U', L, hT, X', hL, e1, e2, hq, st⟩
section
variable {y : MethodName} {bytes cc : ByteArray} {maxL nL mc ms n index : Nat} {ret : Option FieldType} {ws : List Cond} {rm : Room} {Pc : Array Value → State → Prop} {Qc : Array Value → State → Outcome → State → Prop} {XC : String → State → State → Prop} {free : Addr → Prop} {Ts : List Cond} {own C : String} {b : Addr} {As rest : List Value} {g : JFrame}
theorem vx_runVX {hh : List (Nat × Nat × Nat × Nat)} (S : CallFix p m c cc nL s args Ts own) (hM : vx_Met l y ws rm Pc Qc XC mc ms free) (cw : vx_CVW R s args own C index y bytes maxL ret hh ws rm mc ms n) (hp : PreV s H C b Pc As)
    (hg : g.method = m) (hn : As.length = n) (hsize : g.locals.size = nL) (hstack : g.stack = As.reverse ++ .ref b :: rest) (hW : 2 * g.monitorRoom + (rest.map fun v => v.category).sum ≤ 8) (hdg : decode cc g.pc = .ok (.invokevirtual index, 3)) (hf : cells + mc ≤ R.cells ∧ slots + ms ≤ R.slots) :
    vx_Run p l e R s m args below meth c H locs cells slots mc ms g rest (Qc (Value.ref b :: As).toArray) XC free := by
  obtain ⟨⟨hrc, hrs, hfr, hlo, hws, hcw⟩, hcode, hini, hy, hlen, hl, hin, hse⟩ := cw
  have hK : vx_Back l R p e below s args y 3 8 (PreOf R mc ms Pc) (PostOf Qc mc ms free) (vx_Post XC mc ms free) := vx_backW (hh := hh) (bytes := bytes) (maxL := maxL) (ret := ret) hM hp.1 hrc hrs hfr hlo hws hcw (fun a' U hW => word_at hW (Or.inl (by first | rfl | simp [Cond.onTables, Cond.keeps, Cond.steady])) hini)
  obtain ⟨hx, hb, hml, ho, -⟩ := S
  obtain ⟨-, ⟨cellB, hcB, hoB, hclB⟩, hPc⟩ := hp
  intro T hT X
  rcases vx_callVX X hx (C := C) (hh := hh) (bytes := bytes) (maxL := maxL) (ret := ret) ho hl hin hse hcode hy hK (by rw [hT]; exact hcB) hoB hclB hg (hsize.trans hml.symm) (argsL := As) (rest := rest) (fun sig h => hn.trans (hlen sig h)) hstack hW (by rw [hb]; exact hdg)
    (fun vm₁ hW₁ => ⟨hf.1, hf.2, hPc (T.setVm vm₁) hT hW₁⟩) with ⟨v, vm₁, ⟨U', l2, c2, s2⟩, hW₁, X', ⟨g', mk, t, L, e1, e2, hq, h1, hL, h2, h3⟩, st⟩ | ⟨q, vm₁, ⟨U', l2, c2, s2⟩, hW₁, X', ⟨g', mk, t, L, E, ce, e1, e2, hq, hce, hcv, hcl, h1, hL, h2, h3⟩, st⟩
  · dsimp only [Pt.U, Pt.locs, Pt.cells, Pt.slots] at X' e1 e2 h1 h2 h3 st
    subst h1; subst h2; subst h3
    exact Or.inl ⟨v, (T.setVm vm₁).calling g' mk (Value.ref b :: As).toArray, t, U', L, hT, X', hL, e1, e2, hq, st⟩
  · dsimp only [Pt.U, Pt.locs, Pt.cells, Pt.slots] at X' e1 e2 h1 h2 h3 st hcl
    subst h1; subst h2; subst h3
    exact Or.inr ⟨q, (T.setVm vm₁).calling g' mk (Value.ref b :: As).toArray, t, U', L, E, ce, hT, X', hL, e1, e2, hq, hce, hcv, vx_cls hW₁ hcl, st⟩
theorem vx_runSX {hh : List (Nat × Nat × Nat × Nat)} (S : CallFix p m c cc nL s args Ts own) (hM : vx_Met l y ws rm Pc Qc XC mc ms free) (cw : vx_CSW R s args own index y bytes maxL ret hh ws rm mc ms n) (hp : PreS s H Pc As)
    (hg : g.method = m) (hn : As.length = n) (hsize : g.locals.size = nL) (hstack : g.stack = As.reverse ++ rest) (hW : 2 * g.monitorRoom + (rest.map fun v => v.category).sum ≤ 8) (hdg : decode cc g.pc = .ok (.invokestatic index, 3)) (hf : cells + mc ≤ R.cells ∧ slots + ms ≤ R.slots) :
    vx_Run p l e R s m args below meth c H locs cells slots mc ms g rest (Qc As.toArray) XC free := by
  obtain ⟨⟨hrc, hrs, hfr, hlo, hws, hcw⟩, hcode, hini, hy, hlen, hl, hstt⟩ := cw
  have hK : vx_Back l R p e below s args y 3 8 (PreOf R mc ms Pc) (PostOf Qc mc ms free) (vx_Post XC mc ms free) := vx_backW (hh := hh) (bytes := bytes) (maxL := maxL) (ret := ret) hM hp.1 hrc hrs hfr hlo hws hcw (fun a' U hW => word_at hW (Or.inl (by first | rfl | simp [Cond.onTables, Cond.keeps, Cond.steady])) hini)
  obtain ⟨hx, hb, hml, ho, -⟩ := S
  intro T hT X
  rcases vx_callSX X hx (hh := hh) (bytes := bytes) (maxL := maxL) (ret := ret) ho hl hstt hini hcode hy hK hg (hsize.trans hml.symm) (argsL := As) (rest := rest) (fun sig h => hn.trans (hlen sig h)) hstack hW (by rw [hb]; exact hdg)
    (fun vm₁ hW₁ => ⟨hf.1, hf.2, hp.2 (T.setVm vm₁) hT hW₁⟩) with ⟨v, vm₁, ⟨U', l2, c2, s2⟩, hW₁, X', ⟨g', mk, t, L, e1, e2, hq, h1, hL, h2, h3⟩, st⟩ | ⟨q, vm₁, ⟨U', l2, c2, s2⟩, hW₁, X', ⟨g', mk, t, L, E, ce, e1, e2, hq, hce, hcv, hcl, h1, hL, h2, h3⟩, st⟩
  · dsimp only [Pt.U, Pt.locs, Pt.cells, Pt.slots] at X' e1 e2 h1 h2 h3 st
    subst h1; subst h2; subst h3
    exact Or.inl ⟨v, (T.setVm vm₁).calling g' mk As.toArray, t, U', L, hT, X', hL, e1, e2, hq, st⟩
  · dsimp only [Pt.U, Pt.locs, Pt.cells, Pt.slots] at X' e1 e2 h1 h2 h3 st hcl
    subst h1; subst h2; subst h3
    exact Or.inr ⟨q, (T.setVm vm₁).calling g' mk As.toArray, t, U', L, E, ce, hT, X', hL, e1, e2, hq, hce, hcv, vx_cls hW₁ hcl, st⟩
end
end VXH
theorem vx_ofWH {l : Launch} {y : MethodName} {ws ws' : List Cond} {rm : Room} {Pc : Array Value → State → Prop} {Qc : Array Value → State → Outcome → State → Prop} {XC : String → State → State → Prop} {mc ms : Nat} {free : Addr → Prop} {cc : ByteArray} {maxL : Nat} {ret : Option FieldType} {hh : List (Nat × Nat × Nat × Nat)}
    (hy : plainName y.cls = true) (hw : ws = Cond.codeWith y cc maxL ret hh :: ws')
    (body : ∀ p e s m args below meth c s₁, BodyLoose p l y (headSpec ws rm) cc maxL ret e s m args below meth c s₁ → c.maxLocals = maxL → Pc args s →
      W p l e (headSpec ws rm).room s m args below meth c s.heap [] 0 0 (vx_MQ below Qc XC args s mc ms free) (entryFrame m args maxL)) : vx_Met l y ws rm Pc Qc XC mc ms free := by
  refine MetFree.of_bodyS (code := cc) (maxLocals := maxL) (ret := ret) hy ?_ ?_
  · intro args s m h hn
    obtain ⟨m9, meth, c, hn9, h1, h2, h3, h4, -, h5, h6, -⟩ := Cond.codeWith_spec (atoms_spec (ws := ws) h _ (by rw [hw]; exact List.mem_cons_self))
    cases hn.symm.trans hn9
    exact ⟨meth, c, h1, h2, h3, h4, h5, h6⟩
  · intro p e s m args below meth c s₁ B hml hP _
    have hh0 : s₁.heap = s.heap := by rw [B.state]; rfl
    obtain ⟨t, a1, o, b1, b2, b3⟩ := body p e s m args below meth c s₁ B hml hP s₁ hh0 (Stand.of_body B)
    exact ⟨t, o, a1, b1, b2, b3⟩
/-! ===== END ===== -/

/-! ===== BEGIN printed: names, fields, word lists, decode rows ===== -/
def RX0 : String := "RepairShop$History"
def TX0 : u_T := fun k => match k with
  | 0 => ("RepairShop$History", "states", "[LRepairShop$Shop;", true)
  | 1 => ("RepairShop$History", "next", "I", false)
  | _ => ("RepairShop$History", "count", "I", false)
def tyX0 : Nat → FieldType := fun k => match k with
  | 0 => .array (.object "RepairShop$Shop")
  | 1 => .int
  | _ => .int
abbrev wsX00 : List Cond := u_ws RX0 TX0 3
theorem nmX0 : ∀ a, a < 3 → ∀ b, b < 3 → a ≠ b → (TX0 a).2.1 ≠ (TX0 b).2.1 := by decide +kernel
theorem tyX0_ok : ∀ k, k < 3 → parseFieldDescriptor (TX0 k).2.2.1 = some (tyX0 k) := by decide +kernel
abbrev cX0_init : ByteArray := prog_2_method_1_code
def yX0_init : MethodName := ⟨RX0, "<init>", "()V"⟩
abbrev cX0_save : ByteArray := prog_2_method_2_code
def yX0_save : MethodName := ⟨RX0, "save", "(LRepairShop$Shop;)V"⟩
abbrev cX0_restore : ByteArray := prog_2_method_3_code
def yX0_restore : MethodName := ⟨RX0, "restore", "(LRepairShop$Shop;)V"⟩
def RX1 : String := "RepairShop$OrderText"
def TX1 : u_T := fun k => match k with
  | 0 => ("RepairShop$OrderText", "bytes", "[I", true)
  | 1 => ("RepairShop$OrderText", "length", "I", false)
  | 2 => ("RepairShop$OrderText", "at", "I", false)
  | 3 => ("RepairShop$OrderText", "error", "I", false)
  | 4 => ("RepairShop$OrderText", "kind", "I", false)
  | 5 => ("RepairShop$OrderText", "first", "I", false)
  | 6 => ("RepairShop$OrderText", "second", "I", false)
  | _ => ("RepairShop$OrderText", "third", "I", false)
def tyX1 : Nat → FieldType := fun k => match k with
  | 0 => .array .int
  | 1 => .int
  | 2 => .int
  | 3 => .int
  | 4 => .int
  | 5 => .int
  | 6 => .int
  | _ => .int
abbrev wsX10 : List Cond := u_ws RX1 TX1 8
theorem nmX1 : ∀ a, a < 8 → ∀ b, b < 8 → a ≠ b → (TX1 a).2.1 ≠ (TX1 b).2.1 := by decide +kernel
theorem tyX1_ok : ∀ k, k < 8 → parseFieldDescriptor (TX1 k).2.2.1 = some (tyX1 k) := by decide +kernel
abbrev cX1_init : ByteArray := prog_3_method_1_code
def yX1_init : MethodName := ⟨RX1, "<init>", "()V"⟩
abbrev cX1_startOver : ByteArray := prog_3_method_2_code
def yX1_startOver : MethodName := ⟨RX1, "startOver", "()V"⟩
abbrev cX1_findError : ByteArray := prog_3_method_3_code
def yX1_findError : MethodName := ⟨RX1, "findError", "()I"⟩
abbrev cX1_readsOrder : ByteArray := prog_3_method_4_code
def yX1_readsOrder : MethodName := ⟨RX1, "readsOrder", "()Z"⟩
abbrev cX1_readJob : ByteArray := prog_3_method_5_code
def yX1_readJob : MethodName := ⟨RX1, "readJob", "()V"⟩
abbrev cX1_readOperation : ByteArray := prog_3_method_6_code
def yX1_readOperation : MethodName := ⟨RX1, "readOperation", "()V"⟩
abbrev cX1_readBreakdown : ByteArray := prog_3_method_7_code
def yX1_readBreakdown : MethodName := ⟨RX1, "readBreakdown", "()V"⟩
abbrev cX1_nextByte : ByteArray := prog_3_method_8_code
def yX1_nextByte : MethodName := ⟨RX1, "nextByte", "()I"⟩
abbrev cX1_isAtDigit : ByteArray := prog_3_method_9_code
def yX1_isAtDigit : MethodName := ⟨RX1, "isAtDigit", "()Z"⟩
abbrev cX1_readSign : ByteArray := prog_3_method_10_code
def yX1_readSign : MethodName := ⟨RX1, "readSign", "(I)V"⟩
abbrev cX1_readDigit : ByteArray := prog_3_method_11_code
def yX1_readDigit : MethodName := ⟨RX1, "readDigit", "(II)I"⟩
abbrev cX1_readNumber : ByteArray := prog_3_method_12_code
def yX1_readNumber : MethodName := ⟨RX1, "readNumber", "(III)I"⟩
def RX2 : String := "RepairShop$Planner"
def TX2 : u_T := fun k => match k with
  | 0 => ("RepairShop$Planner", "shop", "LRepairShop$Shop;", true)
  | 1 => ("RepairShop$Planner", "draft", "[I", true)
  | 2 => ("RepairShop$Planner", "started", "[I", true)
  | _ => ("RepairShop$Planner", "freeFrom", "[I", true)
def tyX2 : Nat → FieldType := fun k => match k with
  | 0 => .object "RepairShop$Shop"
  | 1 => .array .int
  | 2 => .array .int
  | _ => .array .int
abbrev wsX20 : List Cond := u_ws RX2 TX2 4
theorem nmX2 : ∀ a, a < 4 → ∀ b, b < 4 → a ≠ b → (TX2 a).2.1 ≠ (TX2 b).2.1 := by decide +kernel
theorem tyX2_ok : ∀ k, k < 4 → parseFieldDescriptor (TX2 k).2.2.1 = some (tyX2 k) := by decide +kernel
abbrev cX2_init : ByteArray := prog_4_method_1_code
def yX2_init : MethodName := ⟨RX2, "<init>", "()V"⟩
abbrev cX2_copyDraftTo : ByteArray := prog_4_method_2_code
def yX2_copyDraftTo : MethodName := ⟨RX2, "copyDraftTo", "([I)V"⟩
abbrev cX2_latenessOfDraft : ByteArray := prog_4_method_3_code
def yX2_latenessOfDraft : MethodName := ⟨RX2, "latenessOfDraft", "()I"⟩
abbrev cX2_latenessOfNew : ByteArray := prog_4_method_4_code
def yX2_latenessOfNew : MethodName := ⟨RX2, "latenessOfNew", "(I)I"⟩
abbrev cX2_latenessOfReplan : ByteArray := prog_4_method_5_code
def yX2_latenessOfReplan : MethodName := ⟨RX2, "latenessOfReplan", "(II)I"⟩
abbrev cX2_draftNew : ByteArray := prog_4_method_6_code
def yX2_draftNew : MethodName := ⟨RX2, "draftNew", "(I)V"⟩
abbrev cX2_draftFrom : ByteArray := prog_4_method_7_code
def yX2_draftFrom : MethodName := ⟨RX2, "draftFrom", "(II)V"⟩
abbrev cX2_clearDraft : ByteArray := prog_4_method_8_code
def yX2_clearDraft : MethodName := ⟨RX2, "clearDraft", "()V"⟩
abbrev cX2_keepUntil : ByteArray := prog_4_method_9_code
def yX2_keepUntil : MethodName := ⟨RX2, "keepUntil", "(II)V"⟩
abbrev cX2_fill : ByteArray := prog_4_method_10_code
def yX2_fill : MethodName := ⟨RX2, "fill", "(II)V"⟩
abbrev cX2_draftShifted : ByteArray := prog_4_method_11_code
def yX2_draftShifted : MethodName := ⟨RX2, "draftShifted", "()V"⟩
abbrev cX2_waitUntil : ByteArray := prog_4_method_12_code
def yX2_waitUntil : MethodName := ⟨RX2, "waitUntil", "(II)I"⟩
abbrev cX2_machineFreeFrom : ByteArray := prog_4_method_13_code
def yX2_machineFreeFrom : MethodName := ⟨RX2, "machineFreeFrom", "(I)I"⟩
abbrev cX2_setStart : ByteArray := prog_4_method_14_code
def yX2_setStart : MethodName := ⟨RX2, "setStart", "(II)V"⟩
abbrev cX2_rank : ByteArray := prog_4_method_15_code
def yX2_rank : MethodName := ⟨RX2, "rank", "(II)I"⟩
def RX3 : String := "RepairShop$Shop"
def TX3 : u_T := fun k => match k with
  | 0 => ("RepairShop$Shop", "machines", "I", false)
  | 1 => ("RepairShop$Shop", "jobs", "I", false)
  | 2 => ("RepairShop$Shop", "weight", "[I", true)
  | 3 => ("RepairShop$Shop", "due", "[I", true)
  | 4 => ("RepairShop$Shop", "operations", "[I", true)
  | 5 => ("RepairShop$Shop", "machine", "[I", true)
  | 6 => ("RepairShop$Shop", "duration", "[I", true)
  | 7 => ("RepairShop$Shop", "breakdowns", "I", false)
  | 8 => ("RepairShop$Shop", "brokenMachine", "[I", true)
  | 9 => ("RepairShop$Shop", "brokenFrom", "[I", true)
  | 10 => ("RepairShop$Shop", "brokenFor", "[I", true)
  | 11 => ("RepairShop$Shop", "planned", "Z", false)
  | 12 => ("RepairShop$Shop", "old", "[I", true)
  | 13 => ("RepairShop$Shop", "present", "[I", true)
  | _ => ("RepairShop$Shop", "costs", "I", false)
def tyX3 : Nat → FieldType := fun k => match k with
  | 0 => .int
  | 1 => .int
  | 2 => .array .int
  | 3 => .array .int
  | 4 => .array .int
  | 5 => .array .int
  | 6 => .array .int
  | 7 => .int
  | 8 => .array .int
  | 9 => .array .int
  | 10 => .array .int
  | 11 => .boolean
  | 12 => .array .int
  | 13 => .array .int
  | _ => .int
abbrev wsX30 : List Cond := u_ws RX3 TX3 15
theorem nmX3 : ∀ a, a < 15 → ∀ b, b < 15 → a ≠ b → (TX3 a).2.1 ≠ (TX3 b).2.1 := by decide +kernel
theorem tyX3_ok : ∀ k, k < 15 → parseFieldDescriptor (TX3 k).2.2.1 = some (tyX3 k) := by decide +kernel
abbrev cX3_init : ByteArray := prog_5_method_1_code
def yX3_init : MethodName := ⟨RX3, "<init>", "()V"⟩
abbrev cX3_empty : ByteArray := prog_5_method_2_code
def yX3_empty : MethodName := ⟨RX3, "empty", "(I)V"⟩
abbrev cX3_copyFrom : ByteArray := prog_5_method_3_code
def yX3_copyFrom : MethodName := ⟨RX3, "copyFrom", "(LRepairShop$Shop;)V"⟩
abbrev cX3_hasMachine : ByteArray := prog_5_method_4_code
def yX3_hasMachine : MethodName := ⟨RX3, "hasMachine", "(I)Z"⟩
abbrev cX3_hasJob : ByteArray := prog_5_method_5_code
def yX3_hasJob : MethodName := ⟨RX3, "hasJob", "(I)Z"⟩
abbrev cX3_hasOperation : ByteArray := prog_5_method_6_code
def yX3_hasOperation : MethodName := ⟨RX3, "hasOperation", "(II)Z"⟩
abbrev cX3_hasBreakdown : ByteArray := prog_5_method_7_code
def yX3_hasBreakdown : MethodName := ⟨RX3, "hasBreakdown", "(I)Z"⟩
abbrev cX3_takesJob : ByteArray := prog_5_method_8_code
def yX3_takesJob : MethodName := ⟨RX3, "takesJob", "()Z"⟩
abbrev cX3_takesOperation : ByteArray := prog_5_method_9_code
def yX3_takesOperation : MethodName := ⟨RX3, "takesOperation", "(I)Z"⟩
abbrev cX3_takesBreakdown : ByteArray := prog_5_method_10_code
def yX3_takesBreakdown : MethodName := ⟨RX3, "takesBreakdown", "()Z"⟩
abbrev cX3_takeJob : ByteArray := prog_5_method_11_code
def yX3_takeJob : MethodName := ⟨RX3, "takeJob", "(II)I"⟩
abbrev cX3_takeOperation : ByteArray := prog_5_method_12_code
def yX3_takeOperation : MethodName := ⟨RX3, "takeOperation", "(III)I"⟩
abbrev cX3_takeBreakdown : ByteArray := prog_5_method_13_code
def yX3_takeBreakdown : MethodName := ⟨RX3, "takeBreakdown", "(III)I"⟩
abbrev cX3_countOperations : ByteArray := prog_5_method_14_code
def yX3_countOperations : MethodName := ⟨RX3, "countOperations", "()I"⟩
abbrev cX3_workOf : ByteArray := prog_5_method_15_code
def yX3_workOf : MethodName := ⟨RX3, "workOf", "(I)I"⟩
abbrev cX3_allWork : ByteArray := prog_5_method_16_code
def yX3_allWork : MethodName := ⟨RX3, "allWork", "()I"⟩
abbrev cX3_endOf : ByteArray := prog_5_method_17_code
def yX3_endOf : MethodName := ⟨RX3, "endOf", "(I[I)I"⟩
abbrev cX3_latenessOfJob : ByteArray := prog_5_method_18_code
def yX3_latenessOfJob : MethodName := ⟨RX3, "latenessOfJob", "(I[I)I"⟩
abbrev cX3_latenessOf : ByteArray := prog_5_method_19_code
def yX3_latenessOf : MethodName := ⟨RX3, "latenessOf", "([I)I"⟩
abbrev cX3_greatestEnd : ByteArray := prog_5_method_20_code
def yX3_greatestEnd : MethodName := ⟨RX3, "greatestEnd", "()I"⟩
abbrev cX3_startWithoutHit : ByteArray := prog_5_method_21_code
def yX3_startWithoutHit : MethodName := ⟨RX3, "startWithoutHit", "(II)I"⟩
abbrev cX3_hits : ByteArray := prog_5_method_22_code
def yX3_hits : MethodName := ⟨RX3, "hits", "(II)Z"⟩
abbrev cX3_hitsOne : ByteArray := prog_5_method_23_code
def yX3_hitsOne : MethodName := ⟨RX3, "hitsOne", "(III)Z"⟩
abbrev cX3_countHits : ByteArray := prog_5_method_24_code
def yX3_countHits : MethodName := ⟨RX3, "countHits", "()I"⟩
abbrev cX3_meetingTime : ByteArray := prog_5_method_25_code
def yX3_meetingTime : MethodName := ⟨RX3, "meetingTime", "()I"⟩
abbrev cX3_acceptPresent : ByteArray := prog_5_method_26_code
def yX3_acceptPresent : MethodName := ⟨RX3, "acceptPresent", "()I"⟩
abbrev cX3_codeAt : ByteArray := prog_5_method_27_code
def yX3_codeAt : MethodName := ⟨RX3, "codeAt", "(II)I"⟩
abbrev cX3_countBefore : ByteArray := prog_5_method_28_code
def yX3_countBefore : MethodName := ⟨RX3, "countBefore", "(II)I"⟩
def RX4 : String := "RepairShop"
def TX4 : u_T := fun k => match k with
  | 0 => ("RepairShop", "planner", "LRepairShop$Planner;", true)
  | 1 => ("RepairShop", "shop", "LRepairShop$Shop;", true)
  | 2 => ("RepairShop", "history", "LRepairShop$History;", true)
  | _ => ("RepairShop", "text", "LRepairShop$OrderText;", true)
def tyX4 : Nat → FieldType := fun k => match k with
  | 0 => .object "RepairShop$Planner"
  | 1 => .object "RepairShop$Shop"
  | 2 => .object "RepairShop$History"
  | _ => .object "RepairShop$OrderText"
abbrev wsX40 : List Cond := u_ws RX4 TX4 4
theorem nmX4 : ∀ a, a < 4 → ∀ b, b < 4 → a ≠ b → (TX4 a).2.1 ≠ (TX4 b).2.1 := by decide +kernel
theorem tyX4_ok : ∀ k, k < 4 → parseFieldDescriptor (TX4 k).2.2.1 = some (tyX4 k) := by decide +kernel
abbrev cX4_init : ByteArray := prog_1_method_1_code
def yX4_init : MethodName := ⟨RX4, "<init>", "()V"⟩
abbrev cX4_begin : ByteArray := prog_1_method_2_code
def yX4_begin : MethodName := ⟨RX4, "begin", "(I)I"⟩
abbrev cX4_addJob : ByteArray := prog_1_method_3_code
def yX4_addJob : MethodName := ⟨RX4, "addJob", "(II)I"⟩
abbrev cX4_addOperation : ByteArray := prog_1_method_4_code
def yX4_addOperation : MethodName := ⟨RX4, "addOperation", "(III)I"⟩
abbrev cX4_breakDown : ByteArray := prog_1_method_5_code
def yX4_breakDown : MethodName := ⟨RX4, "breakDown", "(III)I"⟩
abbrev cX4_repaired : ByteArray := prog_1_method_6_code
def yX4_repaired : MethodName := ⟨RX4, "repaired", "()I"⟩
abbrev cX4_plan : ByteArray := prog_1_method_7_code
def yX4_plan : MethodName := ⟨RX4, "plan", "(I)I"⟩
abbrev cX4_shift : ByteArray := prog_1_method_8_code
def yX4_shift : MethodName := ⟨RX4, "shift", "()I"⟩
abbrev cX4_replan : ByteArray := prog_1_method_9_code
def yX4_replan : MethodName := ⟨RX4, "replan", "(II)I"⟩
abbrev cX4_accept : ByteArray := prog_1_method_10_code
def yX4_accept : MethodName := ⟨RX4, "accept", "()I"⟩
abbrev cX4_bargain : ByteArray := prog_1_method_11_code
def yX4_bargain : MethodName := ⟨RX4, "bargain", "(II)I"⟩
abbrev cX4_overtime : ByteArray := prog_1_method_12_code
def yX4_overtime : MethodName := ⟨RX4, "overtime", "(II)I"⟩
abbrev cX4_job : ByteArray := prog_1_method_13_code
def yX4_job : MethodName := ⟨RX4, "job", "(II)I"⟩
abbrev cX4_operation : ByteArray := prog_1_method_14_code
def yX4_operation : MethodName := ⟨RX4, "operation", "(III)I"⟩
abbrev cX4_breakdown : ByteArray := prog_1_method_15_code
def yX4_breakdown : MethodName := ⟨RX4, "breakdown", "(II)I"⟩
abbrev cX4_value : ByteArray := prog_1_method_16_code
def yX4_value : MethodName := ⟨RX4, "value", "(I)I"⟩
abbrev cX4_meeting : ByteArray := prog_1_method_17_code
def yX4_meeting : MethodName := ⟨RX4, "meeting", "()I"⟩
abbrev cX4_onMachine : ByteArray := prog_1_method_18_code
def yX4_onMachine : MethodName := ⟨RX4, "onMachine", "(II)I"⟩
abbrev cX4_latenessBy : ByteArray := prog_1_method_19_code
def yX4_latenessBy : MethodName := ⟨RX4, "latenessBy", "(I)I"⟩
abbrev cX4_bestRule : ByteArray := prog_1_method_20_code
def yX4_bestRule : MethodName := ⟨RX4, "bestRule", "()I"⟩
abbrev cX4_latenessShifted : ByteArray := prog_1_method_21_code
def yX4_latenessShifted : MethodName := ⟨RX4, "latenessShifted", "()I"⟩
abbrev cX4_bestReplan : ByteArray := prog_1_method_22_code
def yX4_bestReplan : MethodName := ⟨RX4, "bestReplan", "(I)I"⟩
abbrev cX4_bestOvertime : ByteArray := prog_1_method_23_code
def yX4_bestOvertime : MethodName := ⟨RX4, "bestOvertime", "(I)I"⟩
abbrev cX4_usage : ByteArray := prog_1_method_24_code
def yX4_usage : MethodName := ⟨RX4, "usage", "()D"⟩
abbrev cX4_append : ByteArray := prog_1_method_25_code
def yX4_append : MethodName := ⟨RX4, "append", "(I)I"⟩
abbrev cX4_clearText : ByteArray := prog_1_method_26_code
def yX4_clearText : MethodName := ⟨RX4, "clearText", "()I"⟩
abbrev cX4_carryOut : ByteArray := prog_1_method_27_code
def yX4_carryOut : MethodName := ⟨RX4, "carryOut", "()I"⟩
abbrev cX4_undo : ByteArray := prog_1_method_28_code
def yX4_undo : MethodName := ⟨RX4, "undo", "()I"⟩
abbrev cX4_digest : ByteArray := prog_1_method_29_code
def yX4_digest : MethodName := ⟨RX4, "digest", "()J"⟩
abbrev cX4_joinedJob : ByteArray := prog_1_method_30_code
def yX4_joinedJob : MethodName := ⟨RX4, "joinedJob", "(JI)J"⟩
abbrev cX4_joined : ByteArray := prog_1_method_31_code
def yX4_joined : MethodName := ⟨RX4, "joined", "(JI)J"⟩
abbrev cX4_valueOfPlans : ByteArray := prog_1_method_32_code
def yX4_valueOfPlans : MethodName := ⟨RX4, "valueOfPlans", "(I)I"⟩
abbrev cX4_takeNewPlan : ByteArray := prog_1_method_33_code
def yX4_takeNewPlan : MethodName := ⟨RX4, "takeNewPlan", "(I)I"⟩
abbrev cX4_latenessWithOvertime : ByteArray := prog_1_method_34_code
def yX4_latenessWithOvertime : MethodName := ⟨RX4, "latenessWithOvertime", "(II)I"⟩
abbrev cX4_carriesOutOrder : ByteArray := prog_1_method_35_code
def yX4_carriesOutOrder : MethodName := ⟨RX4, "carriesOutOrder", "()Z"⟩
abbrev cX4_isBetween : ByteArray := prog_1_method_36_code
def yX4_isBetween : MethodName := ⟨RX4, "isBetween", "(III)Z"⟩
abbrev cX4_isRule : ByteArray := prog_1_method_37_code
def yX4_isRule : MethodName := ⟨RX4, "isRule", "(I)Z"⟩
abbrev cX4_slotOf : ByteArray := prog_1_method_38_code
def yX4_slotOf : MethodName := ⟨RX4, "slotOf", "(II)I"⟩
def RX5 : String := "RepairShopModel"
def TX5 : u_T := fun k => match k with
  | 0 => ("RepairShopModel", "thrown", "I", false)
  | 1 => ("RepairShopModel", "state", "[I", true)
  | 2 => ("RepairShopModel", "kept", "[I", true)
  | 3 => ("RepairShopModel", "stack", "[I", true)
  | 4 => ("RepairShopModel", "saved", "I", false)
  | 5 => ("RepairShopModel", "text", "[I", true)
  | 6 => ("RepairShopModel", "textLength", "I", false)
  | 7 => ("RepairShopModel", "place", "I", false)
  | 8 => ("RepairShopModel", "letter", "I", false)
  | 9 => ("RepairShopModel", "first", "I", false)
  | 10 => ("RepairShopModel", "second", "I", false)
  | _ => ("RepairShopModel", "third", "I", false)
def tyX5 : Nat → FieldType := fun k => match k with
  | 0 => .int
  | 1 => .array .int
  | 2 => .array .int
  | 3 => .array .int
  | 4 => .int
  | 5 => .array .int
  | 6 => .int
  | 7 => .int
  | 8 => .int
  | 9 => .int
  | 10 => .int
  | _ => .int
abbrev wsX50 : List Cond := u_ws RX5 TX5 12
theorem nmX5 : ∀ a, a < 12 → ∀ b, b < 12 → a ≠ b → (TX5 a).2.1 ≠ (TX5 b).2.1 := by decide +kernel
theorem tyX5_ok : ∀ k, k < 12 → parseFieldDescriptor (TX5 k).2.2.1 = some (tyX5 k) := by decide +kernel
abbrev cX5_init : ByteArray := prog_7_method_1_code
def yX5_init : MethodName := ⟨RX5, "<init>", "()V"⟩
abbrev cX5_thrown : ByteArray := prog_7_method_2_code
def yX5_thrown : MethodName := ⟨RX5, "thrown", "()I"⟩
abbrev cX5_copy : ByteArray := prog_7_method_3_code
def yX5_copy : MethodName := ⟨RX5, "copy", "([II[II)V"⟩
abbrev cX5_within : ByteArray := prog_7_method_4_code
def yX5_within : MethodName := ⟨RX5, "within", "(III)Z"⟩
abbrev cX5_save : ByteArray := prog_7_method_5_code
def yX5_save : MethodName := ⟨RX5, "save", "()V"⟩
abbrev cX5_isMachine : ByteArray := prog_7_method_6_code
def yX5_isMachine : MethodName := ⟨RX5, "isMachine", "(I)Z"⟩
abbrev cX5_isJob : ByteArray := prog_7_method_7_code
def yX5_isJob : MethodName := ⟨RX5, "isJob", "(I)Z"⟩
abbrev cX5_jobPart : ByteArray := prog_7_method_8_code
def yX5_jobPart : MethodName := ⟨RX5, "jobPart", "(II)I"⟩
abbrev cX5_placeOf : ByteArray := prog_7_method_9_code
def yX5_placeOf : MethodName := ⟨RX5, "placeOf", "(II)I"⟩
abbrev cX5_part : ByteArray := prog_7_method_10_code
def yX5_part : MethodName := ⟨RX5, "part", "(III)I"⟩
abbrev cX5_isOperation : ByteArray := prog_7_method_11_code
def yX5_isOperation : MethodName := ⟨RX5, "isOperation", "(II)Z"⟩
abbrev cX5_breakPart : ByteArray := prog_7_method_12_code
def yX5_breakPart : MethodName := ⟨RX5, "breakPart", "(II)I"⟩
abbrev cX5_begin : ByteArray := prog_7_method_13_code
def yX5_begin : MethodName := ⟨RX5, "begin", "(I)I"⟩
abbrev cX5_whyNoJob : ByteArray := prog_7_method_14_code
def yX5_whyNoJob : MethodName := ⟨RX5, "whyNoJob", "(II)I"⟩
abbrev cX5_putJob : ByteArray := prog_7_method_15_code
def yX5_putJob : MethodName := ⟨RX5, "putJob", "(II)I"⟩
abbrev cX5_addJob : ByteArray := prog_7_method_16_code
def yX5_addJob : MethodName := ⟨RX5, "addJob", "(II)I"⟩
abbrev cX5_whyNoOperation : ByteArray := prog_7_method_17_code
def yX5_whyNoOperation : MethodName := ⟨RX5, "whyNoOperation", "(III)I"⟩
abbrev cX5_putOperation : ByteArray := prog_7_method_18_code
def yX5_putOperation : MethodName := ⟨RX5, "putOperation", "(III)I"⟩
abbrev cX5_addOperation : ByteArray := prog_7_method_19_code
def yX5_addOperation : MethodName := ⟨RX5, "addOperation", "(III)I"⟩
abbrev cX5_whyNoBreakdown : ByteArray := prog_7_method_20_code
def yX5_whyNoBreakdown : MethodName := ⟨RX5, "whyNoBreakdown", "(III)I"⟩
abbrev cX5_putBreakdown : ByteArray := prog_7_method_21_code
def yX5_putBreakdown : MethodName := ⟨RX5, "putBreakdown", "(III)I"⟩
abbrev cX5_breakDown : ByteArray := prog_7_method_22_code
def yX5_breakDown : MethodName := ⟨RX5, "breakDown", "(III)I"⟩
abbrev cX5_repaired : ByteArray := prog_7_method_23_code
def yX5_repaired : MethodName := ⟨RX5, "repaired", "()I"⟩
abbrev cX5_hits : ByteArray := prog_7_method_24_code
def yX5_hits : MethodName := ⟨RX5, "hits", "(III)I"⟩
abbrev cX5_free : ByteArray := prog_7_method_25_code
def yX5_free : MethodName := ⟨RX5, "free", "(III)I"⟩
abbrev cX5_endOf : ByteArray := prog_7_method_26_code
def yX5_endOf : MethodName := ⟨RX5, "endOf", "(III)I"⟩
abbrev cX5_nextOf : ByteArray := prog_7_method_27_code
def yX5_nextOf : MethodName := ⟨RX5, "nextOf", "(I)I"⟩
abbrev cX5_earliest : ByteArray := prog_7_method_28_code
def yX5_earliest : MethodName := ⟨RX5, "earliest", "(III)I"⟩
abbrev cX5_ranked : ByteArray := prog_7_method_29_code
def yX5_ranked : MethodName := ⟨RX5, "ranked", "(III)I"⟩
abbrev cX5_fill : ByteArray := prog_7_method_30_code
def yX5_fill : MethodName := ⟨RX5, "fill", "(II)V"⟩
abbrev cX5_latenessOf : ByteArray := prog_7_method_31_code
def yX5_latenessOf : MethodName := ⟨RX5, "latenessOf", "(II)I"⟩
abbrev cX5_lateness : ByteArray := prog_7_method_32_code
def yX5_lateness : MethodName := ⟨RX5, "lateness", "(I)I"⟩
abbrev cX5_copyStarts : ByteArray := prog_7_method_33_code
def yX5_copyStarts : MethodName := ⟨RX5, "copyStarts", "(II)I"⟩
abbrev cX5_makePlan : ByteArray := prog_7_method_34_code
def yX5_makePlan : MethodName := ⟨RX5, "makePlan", "(I)V"⟩
abbrev cX5_isRule : ByteArray := prog_7_method_35_code
def yX5_isRule : MethodName := ⟨RX5, "isRule", "(I)Z"⟩
abbrev cX5_plan : ByteArray := prog_7_method_36_code
def yX5_plan : MethodName := ⟨RX5, "plan", "(I)I"⟩
abbrev cX5_shifted : ByteArray := prog_7_method_37_code
def yX5_shifted : MethodName := ⟨RX5, "shifted", "(II)I"⟩
abbrev cX5_shiftPlan : ByteArray := prog_7_method_38_code
def yX5_shiftPlan : MethodName := ⟨RX5, "shiftPlan", "()V"⟩
abbrev cX5_hasPlan : ByteArray := prog_7_method_39_code
def yX5_hasPlan : MethodName := ⟨RX5, "hasPlan", "()Z"⟩
abbrev cX5_shift : ByteArray := prog_7_method_40_code
def yX5_shift : MethodName := ⟨RX5, "shift", "()I"⟩
abbrev cX5_planAnew : ByteArray := prog_7_method_41_code
def yX5_planAnew : MethodName := ⟨RX5, "planAnew", "(II)V"⟩
abbrev cX5_isMoment : ByteArray := prog_7_method_42_code
def yX5_isMoment : MethodName := ⟨RX5, "isMoment", "(I)Z"⟩
abbrev cX5_replan : ByteArray := prog_7_method_43_code
def yX5_replan : MethodName := ⟨RX5, "replan", "(II)I"⟩
abbrev cX5_accept : ByteArray := prog_7_method_44_code
def yX5_accept : MethodName := ⟨RX5, "accept", "()I"⟩
abbrev cX5_bargain : ByteArray := prog_7_method_45_code
def yX5_bargain : MethodName := ⟨RX5, "bargain", "(II)I"⟩
abbrev cX5_overtime : ByteArray := prog_7_method_46_code
def yX5_overtime : MethodName := ⟨RX5, "overtime", "(II)I"⟩
abbrev cX5_jobValue : ByteArray := prog_7_method_47_code
def yX5_jobValue : MethodName := ⟨RX5, "jobValue", "(II)I"⟩
abbrev cX5_job : ByteArray := prog_7_method_48_code
def yX5_job : MethodName := ⟨RX5, "job", "(II)I"⟩
abbrev cX5_isHit : ByteArray := prog_7_method_49_code
def yX5_isHit : MethodName := ⟨RX5, "isHit", "(II)I"⟩
abbrev cX5_operationValue : ByteArray := prog_7_method_50_code
def yX5_operationValue : MethodName := ⟨RX5, "operationValue", "(III)I"⟩
abbrev cX5_operation : ByteArray := prog_7_method_51_code
def yX5_operation : MethodName := ⟨RX5, "operation", "(III)I"⟩
abbrev cX5_breakdown : ByteArray := prog_7_method_52_code
def yX5_breakdown : MethodName := ⟨RX5, "breakdown", "(II)I"⟩
abbrev cX5_greatestEnd : ByteArray := prog_7_method_53_code
def yX5_greatestEnd : MethodName := ⟨RX5, "greatestEnd", "()I"⟩
abbrev cX5_operationMany : ByteArray := prog_7_method_54_code
def yX5_operationMany : MethodName := ⟨RX5, "operationMany", "()I"⟩
abbrev cX5_hitMany : ByteArray := prog_7_method_55_code
def yX5_hitMany : MethodName := ⟨RX5, "hitMany", "()I"⟩
abbrev cX5_valueOf : ByteArray := prog_7_method_56_code
def yX5_valueOf : MethodName := ⟨RX5, "valueOf", "(I)I"⟩
abbrev cX5_value : ByteArray := prog_7_method_57_code
def yX5_value : MethodName := ⟨RX5, "value", "(I)I"⟩
abbrev cX5_meetingOf : ByteArray := prog_7_method_58_code
def yX5_meetingOf : MethodName := ⟨RX5, "meetingOf", "()I"⟩
abbrev cX5_meeting : ByteArray := prog_7_method_59_code
def yX5_meeting : MethodName := ⟨RX5, "meeting", "()I"⟩
abbrev cX5_aheadOf : ByteArray := prog_7_method_60_code
def yX5_aheadOf : MethodName := ⟨RX5, "aheadOf", "(II)I"⟩
abbrev cX5_onMachine : ByteArray := prog_7_method_61_code
def yX5_onMachine : MethodName := ⟨RX5, "onMachine", "(II)I"⟩
abbrev cX5_latenessPlanned : ByteArray := prog_7_method_62_code
def yX5_latenessPlanned : MethodName := ⟨RX5, "latenessPlanned", "(I)I"⟩
abbrev cX5_latenessBy : ByteArray := prog_7_method_63_code
def yX5_latenessBy : MethodName := ⟨RX5, "latenessBy", "(I)I"⟩
abbrev cX5_bestRule : ByteArray := prog_7_method_64_code
def yX5_bestRule : MethodName := ⟨RX5, "bestRule", "()I"⟩
abbrev cX5_latenessOfShift : ByteArray := prog_7_method_65_code
def yX5_latenessOfShift : MethodName := ⟨RX5, "latenessOfShift", "()I"⟩
abbrev cX5_latenessShifted : ByteArray := prog_7_method_66_code
def yX5_latenessShifted : MethodName := ⟨RX5, "latenessShifted", "()I"⟩
abbrev cX5_bestReplan : ByteArray := prog_7_method_67_code
def yX5_bestReplan : MethodName := ⟨RX5, "bestReplan", "(I)I"⟩
abbrev cX5_bestOvertime : ByteArray := prog_7_method_68_code
def yX5_bestOvertime : MethodName := ⟨RX5, "bestOvertime", "(I)I"⟩
abbrev cX5_usage : ByteArray := prog_7_method_69_code
def yX5_usage : MethodName := ⟨RX5, "usage", "()D"⟩
abbrev cX5_append : ByteArray := prog_7_method_70_code
def yX5_append : MethodName := ⟨RX5, "append", "(I)I"⟩
abbrev cX5_clearText : ByteArray := prog_7_method_71_code
def yX5_clearText : MethodName := ⟨RX5, "clearText", "()I"⟩
abbrev cX5_next : ByteArray := prog_7_method_72_code
def yX5_next : MethodName := ⟨RX5, "next", "()I"⟩
abbrev cX5_takes : ByteArray := prog_7_method_73_code
def yX5_takes : MethodName := ⟨RX5, "takes", "(I)Z"⟩
abbrev cX5_digit : ByteArray := prog_7_method_74_code
def yX5_digit : MethodName := ⟨RX5, "digit", "(II)I"⟩
abbrev cX5_number : ByteArray := prog_7_method_75_code
def yX5_number : MethodName := ⟨RX5, "number", "(III)I"⟩
abbrev cX5_readsJob : ByteArray := prog_7_method_76_code
def yX5_readsJob : MethodName := ⟨RX5, "readsJob", "()Z"⟩
abbrev cX5_readsOperation : ByteArray := prog_7_method_77_code
def yX5_readsOperation : MethodName := ⟨RX5, "readsOperation", "()Z"⟩
abbrev cX5_readsBreakdown : ByteArray := prog_7_method_78_code
def yX5_readsBreakdown : MethodName := ⟨RX5, "readsBreakdown", "()Z"⟩
abbrev cX5_readsOrder : ByteArray := prog_7_method_79_code
def yX5_readsOrder : MethodName := ⟨RX5, "readsOrder", "()Z"⟩
abbrev cX5_carriesOut : ByteArray := prog_7_method_80_code
def yX5_carriesOut : MethodName := ⟨RX5, "carriesOut", "()Z"⟩
abbrev cX5_carryOut : ByteArray := prog_7_method_81_code
def yX5_carryOut : MethodName := ⟨RX5, "carryOut", "()I"⟩
abbrev cX5_undo : ByteArray := prog_7_method_82_code
def yX5_undo : MethodName := ⟨RX5, "undo", "()I"⟩
abbrev cX5_digest : ByteArray := prog_7_method_83_code
def yX5_digest : MethodName := ⟨RX5, "digest", "()J"⟩
def RJ9 : String := "java/lang/Math"
def TJ9 : u_T := fun k => match k with
  | _ => ("", "", "", false)
def tyJ9 : Nat → FieldType := fun k => match k with
  | _ => .int
abbrev wsJ90 : List Cond := u_ws RJ9 TJ9 0
theorem nmJ9 : ∀ a, a < 0 → ∀ b, b < 0 → a ≠ b → (TJ9 a).2.1 ≠ (TJ9 b).2.1 := by decide +kernel
theorem tyJ9_ok : ∀ k, k < 0 → parseFieldDescriptor (TJ9 k).2.2.1 = some (tyJ9 k) := by decide +kernel
abbrev cJ9_max_7cf53 : ByteArray := prog_12_method_65_code
def yJ9_max_7cf53 : MethodName := ⟨RJ9, "max", "(II)I"⟩
abbrev cJ9_min_7cf53 : ByteArray := prog_12_method_69_code
def yJ9_min_7cf53 : MethodName := ⟨RJ9, "min", "(II)I"⟩
def RJ0 : String := "java/lang/String"
def TJ0 : u_T := fun k => match k with
  | _ => ("", "", "", false)
def tyJ0 : Nat → FieldType := fun k => match k with
  | _ => .int
abbrev wsJ00 : List Cond := u_ws RJ0 TJ0 0
theorem nmJ0 : ∀ a, a < 0 → ∀ b, b < 0 → a ≠ b → (TJ0 a).2.1 ≠ (TJ0 b).2.1 := by decide +kernel
theorem tyJ0_ok : ∀ k, k < 0 → parseFieldDescriptor (TJ0 k).2.2.1 = some (tyJ0 k) := by decide +kernel
def RJ10 : String := "java/lang/System"
def TJ10 : u_T := fun k => match k with
  | _ => ("", "", "", false)
def tyJ10 : Nat → FieldType := fun k => match k with
  | _ => .int
abbrev wsJ100 : List Cond := u_ws RJ10 TJ10 0
theorem nmJ10 : ∀ a, a < 0 → ∀ b, b < 0 → a ≠ b → (TJ10 a).2.1 ≠ (TJ10 b).2.1 := by decide +kernel
theorem tyJ10_ok : ∀ k, k < 0 → parseFieldDescriptor (TJ10 k).2.2.1 = some (tyJ10 k) := by decide +kernel
def RL : String := "RepairShopLaw"
abbrev cL_begin : ByteArray := method_3_code
def yL_begin : MethodName := ⟨RL, "begin", "(LRepairShop;I[J)I"⟩
abbrev cL_addJob : ByteArray := method_4_code
def yL_addJob : MethodName := ⟨RL, "addJob", "(LRepairShop;II[J)I"⟩
abbrev cL_addOperation : ByteArray := method_5_code
def yL_addOperation : MethodName := ⟨RL, "addOperation", "(LRepairShop;III[J)I"⟩
abbrev cL_breakDown : ByteArray := method_6_code
def yL_breakDown : MethodName := ⟨RL, "breakDown", "(LRepairShop;III[J)I"⟩
abbrev cL_repaired : ByteArray := method_7_code
def yL_repaired : MethodName := ⟨RL, "repaired", "(LRepairShop;[J)I"⟩
abbrev cL_plan : ByteArray := method_8_code
def yL_plan : MethodName := ⟨RL, "plan", "(LRepairShop;I[J)I"⟩
abbrev cL_shift : ByteArray := method_9_code
def yL_shift : MethodName := ⟨RL, "shift", "(LRepairShop;[J)I"⟩
abbrev cL_replan : ByteArray := method_10_code
def yL_replan : MethodName := ⟨RL, "replan", "(LRepairShop;II[J)I"⟩
abbrev cL_accept : ByteArray := method_11_code
def yL_accept : MethodName := ⟨RL, "accept", "(LRepairShop;[J)I"⟩
abbrev cL_bargain : ByteArray := method_12_code
def yL_bargain : MethodName := ⟨RL, "bargain", "(LRepairShop;II[J)I"⟩
abbrev cL_overtime : ByteArray := method_13_code
def yL_overtime : MethodName := ⟨RL, "overtime", "(LRepairShop;II[J)I"⟩
abbrev cL_job : ByteArray := method_14_code
def yL_job : MethodName := ⟨RL, "job", "(LRepairShop;II[J)I"⟩
abbrev cL_operation : ByteArray := method_15_code
def yL_operation : MethodName := ⟨RL, "operation", "(LRepairShop;III[J)I"⟩
abbrev cL_breakdown : ByteArray := method_16_code
def yL_breakdown : MethodName := ⟨RL, "breakdown", "(LRepairShop;II[J)I"⟩
abbrev cL_value : ByteArray := method_17_code
def yL_value : MethodName := ⟨RL, "value", "(LRepairShop;I[J)I"⟩
abbrev cL_onMachine : ByteArray := method_18_code
def yL_onMachine : MethodName := ⟨RL, "onMachine", "(LRepairShop;II[J)I"⟩
abbrev cL_latenessBy : ByteArray := method_19_code
def yL_latenessBy : MethodName := ⟨RL, "latenessBy", "(LRepairShop;I[J)I"⟩
abbrev cL_bestReplan : ByteArray := method_20_code
def yL_bestReplan : MethodName := ⟨RL, "bestReplan", "(LRepairShop;I[J)I"⟩
abbrev cL_bestOvertime : ByteArray := method_21_code
def yL_bestOvertime : MethodName := ⟨RL, "bestOvertime", "(LRepairShop;I[J)I"⟩
abbrev cL_append : ByteArray := method_22_code
def yL_append : MethodName := ⟨RL, "append", "(LRepairShop;I[J)I"⟩
abbrev cL_undo : ByteArray := method_23_code
def yL_undo : MethodName := ⟨RL, "undo", "(LRepairShop;[J)I"⟩
abbrev cL_law : ByteArray := code
def yL_law : MethodName := ⟨RL, "law", "([I)Z"⟩
end
section
/-! ===== 02: a small machine of whole numbers: values, steps; a place of the world is a number below 69, its ints are a function ===== -/
abbrev zVal : Type := Int ⊕ (Nat ⊕ Int64)
abbrev zI (x : Int) : zVal := Sum.inl x
abbrev zR (k : Nat) : zVal := Sum.inr (Sum.inl k)
abbrev zL (x : Int64) : zVal := Sum.inr (Sum.inr x)
abbrev zSt : Type := Nat → Nat → Int
abbrev zLc : Type := List (Option zVal)
/-- where a method stands: pc, locals, stack, the world's ints -/
abbrev zCf : Type := Nat × zLc × List zVal × zSt
/-- what a step comes to: goes on; returns; calls (method, arguments, its locals, kind of answer, where it goes on); throws -/
abbrev zStp : Type := zCf ⊕ ((Option zVal × zSt) ⊕ ((Nat × List zVal × Nat × Nat × zCf) ⊕ Nat))
abbrev zGo (pc : Nat) (ls : zLc) (st : List zVal) (σ : zSt) : Option zStp := some (Sum.inl (pc, ls, st, σ))
abbrev zOp : Type := zLc → List zVal → zSt → Option zStp
/-- an int of 32 bits -/
def zw (x : Int) : Int := (Int32.ofInt x).toInt
def zup (σ : zSt) (k j : Nat) (v : Int) : zSt := fun k' j' => if k' = k ∧ j' = j then v else σ k' j'
def zcp (σ : zSt) (a d n : Nat) : zSt := fun k j => if k = d ∧ j < n then σ a j else σ k j
/-- the second half of a long that is lost by a store behind it -/
def zk (ls : zLc) (i : Nat) : zLc := match i with
  | 0 => ls
  | i + 1 => match ls[i]? with
    | some (some (.inr (.inr _))) => ls.set i none
    | _ => ls
def zs1 (ls : zLc) (i : Nat) (v : zVal) : zLc := (zk ls i).set i (some v)
def zs2 (ls : zLc) (i : Nat) (v : zVal) : zLc := ((zk ls i).set i (some v)).set (i + 1) none
/-- a value of one word -/
def zc1 (v : zVal) : Bool := match v with
  | .inr (.inr _) => false
  | _ => true
-- the world: 0 RepairShop, 1 Planner, 2 Shop, 3 to 6 the states' Shops, 7 History, 8 OrderText, 9 the model; 10 to 19 the shop's rows, 20 to 59 the states' rows, 60 draft, 61 started, 62 freeFrom, 63 states, 64 bytes, 65 state, 66 kept, 67 stack, 68 text
/-- the class of a place, from 1 on (0: a row) -/
def zcl (k : Nat) : Nat := match k with
  | 0 => 5
  | 1 => 3
  | 2 => 4
  | 3 => 4
  | 4 => 4
  | 5 => 4
  | 6 => 4
  | 7 => 1
  | 8 => 2
  | 9 => 6
  | _ => 0
def zshopf (b j : Nat) : Nat := match j with
  | 2 => b + 1
  | 3 => b + 2
  | 4 => b + 3
  | 5 => b + 4
  | 6 => b + 5
  | 8 => b + 6
  | 9 => b + 7
  | 10 => b + 8
  | 12 => b + 9
  | 13 => b + 10
  | _ => 0
/-- what field j of the object at place k holds: 0 an int, else one more than the place that it refers to -/
def zfl (k j : Nat) : Nat := match k with
  | 0 => match j with
    | 0 => 2
    | 1 => 3
    | 2 => 8
    | _ => 9
  | 1 => match j with
    | 0 => 3
    | 1 => 61
    | 2 => 62
    | _ => 63
  | 2 => zshopf 10 j
  | 3 => zshopf 20 j
  | 4 => zshopf 30 j
  | 5 => zshopf 40 j
  | 6 => zshopf 50 j
  | 7 => match j with
    | 0 => 64
    | _ => 0
  | 8 => match j with
    | 0 => 65
    | _ => 0
  | 9 => match j with
    | 1 => 66
    | 2 => 67
    | 3 => 68
    | 5 => 69
    | _ => 0
  | _ => 0
/-- how many ints the row at place k has -/
def zal (k : Nat) : Int := if k < 10 then 0 else if k < 60 then (match k % 10 with
    | 3 => 30
    | 4 => 30
    | 8 => 30
    | 9 => 30
    | _ => 6) else (match k with
  | 60 => 30
  | 61 => 6
  | 62 => 5
  | 64 => 100
  | 65 => 161
  | 66 => 161
  | 67 => 644
  | 68 => 100
  | _ => 0)
def o_no : zOp := fun _ _ _ => none
def o_const (v : Int) (nx : Nat) : zOp := fun ls st σ => zGo nx ls (zI v :: st) σ
def o_lconst (v : Int64) (nx : Nat) : zOp := fun ls st σ => zGo nx ls (zL v :: st) σ
def o_iload (k nx : Nat) : zOp := fun ls st σ => match ls[k]? with
  | some (some (.inl x)) => zGo nx ls (zI x :: st) σ
  | _ => none
def o_aload (k nx : Nat) : zOp := fun ls st σ => match ls[k]? with
  | some (some (.inr (.inl x))) => zGo nx ls (zR x :: st) σ
  | _ => none
def o_lload (k nx : Nat) : zOp := fun ls st σ => match ls[k]? with
  | some (some (.inr (.inr x))) => zGo nx ls (zL x :: st) σ
  | _ => none
def o_istore (k nx : Nat) : zOp := fun ls st σ => match st with
  | .inl x :: r => zGo nx (zs1 ls k (zI x)) r σ
  | _ => none
def o_astore (k nx : Nat) : zOp := fun ls st σ => match st with
  | .inr (.inl x) :: r => zGo nx (zs1 ls k (zR x)) r σ
  | _ => none
def o_lstore (k nx : Nat) : zOp := fun ls st σ => match st with
  | .inr (.inr x) :: r => zGo nx (zs2 ls k (zL x)) r σ
  | _ => none
def o_iinc (k : Nat) (d : Int) (nx : Nat) : zOp := fun ls st σ => match ls[k]? with
  | some (some (.inl x)) => zGo nx (ls.set k (some (zI (zw (x + d))))) st σ
  | _ => none
def o_iadd (nx : Nat) : zOp := fun ls st σ => match st with
  | .inl y :: .inl x :: r => zGo nx ls (zI (zw (x + y)) :: r) σ
  | _ => none
def o_isub (nx : Nat) : zOp := fun ls st σ => match st with
  | .inl y :: .inl x :: r => zGo nx ls (zI (zw (x - y)) :: r) σ
  | _ => none
def o_imul (nx : Nat) : zOp := fun ls st σ => match st with
  | .inl y :: .inl x :: r => zGo nx ls (zI (zw (x * y)) :: r) σ
  | _ => none
def o_ineg (nx : Nat) : zOp := fun ls st σ => match st with
  | .inl x :: r => zGo nx ls (zI (zw (-x)) :: r) σ
  | _ => none
/-- an int as a long -/
def zl (x : Int) : Int64 := (Int32.ofInt x).toInt64
def o_i2l (nx : Nat) : zOp := fun ls st σ => match st with
  | .inl x :: r => zGo nx ls (zL (zl x) :: r) σ
  | _ => none
def o_ladd (nx : Nat) : zOp := fun ls st σ => match st with
  | .inr (.inr y) :: .inr (.inr x) :: r => zGo nx ls (zL (x + y) :: r) σ
  | _ => none
def o_lmul (nx : Nat) : zOp := fun ls st σ => match st with
  | .inr (.inr y) :: .inr (.inr x) :: r => zGo nx ls (zL (x * y) :: r) σ
  | _ => none
def o_dup (nx : Nat) : zOp := fun ls st σ => match st with
  | a :: r => cond (zc1 a) (zGo nx ls (a :: a :: r) σ) none
  | _ => none
def o_dup2 (nx : Nat) : zOp := fun ls st σ => match st with
  | a :: b :: r => cond (zc1 a && zc1 b) (zGo nx ls (a :: b :: a :: b :: r) σ) none
  | _ => none
def o_pop (nx : Nat) : zOp := fun ls st σ => match st with
  | a :: r => cond (zc1 a) (zGo nx ls r σ) none
  | _ => none
def o_goto (t : Nat) : zOp := fun ls st σ => zGo t ls st σ
def o_ifeq (t nx : Nat) : zOp := fun ls st σ => match st with
  | .inl x :: r => zGo (if x = 0 then t else nx) ls r σ
  | _ => none
def o_ifne (t nx : Nat) : zOp := fun ls st σ => match st with
  | .inl x :: r => zGo (if x = 0 then nx else t) ls r σ
  | _ => none
def o_iflt (t nx : Nat) : zOp := fun ls st σ => match st with
  | .inl x :: r => zGo (if x < 0 then t else nx) ls r σ
  | _ => none
def o_ifge (t nx : Nat) : zOp := fun ls st σ => match st with
  | .inl x :: r => zGo (if x < 0 then nx else t) ls r σ
  | _ => none
def o_ifgt (t nx : Nat) : zOp := fun ls st σ => match st with
  | .inl x :: r => zGo (if x ≤ 0 then nx else t) ls r σ
  | _ => none
def o_ifle (t nx : Nat) : zOp := fun ls st σ => match st with
  | .inl x :: r => zGo (if x ≤ 0 then t else nx) ls r σ
  | _ => none
def o_ceq (t nx : Nat) : zOp := fun ls st σ => match st with
  | .inl y :: .inl x :: r => zGo (if x = y then t else nx) ls r σ
  | _ => none
def o_cne (t nx : Nat) : zOp := fun ls st σ => match st with
  | .inl y :: .inl x :: r => zGo (if x = y then nx else t) ls r σ
  | _ => none
def o_clt (t nx : Nat) : zOp := fun ls st σ => match st with
  | .inl y :: .inl x :: r => zGo (if x < y then t else nx) ls r σ
  | _ => none
def o_cge (t nx : Nat) : zOp := fun ls st σ => match st with
  | .inl y :: .inl x :: r => zGo (if x < y then nx else t) ls r σ
  | _ => none
def o_cgt (t nx : Nat) : zOp := fun ls st σ => match st with
  | .inl y :: .inl x :: r => zGo (if x ≤ y then nx else t) ls r σ
  | _ => none
def o_cle (t nx : Nat) : zOp := fun ls st σ => match st with
  | .inl y :: .inl x :: r => zGo (if x ≤ y then t else nx) ls r σ
  | _ => none
def o_getf (ci j nx : Nat) : zOp := fun ls st σ => match st with
  | .inr (.inl k) :: r => cond (Nat.beq (zcl k) ci) (match zfl k j with
    | 0 => zGo nx ls (zI (σ k j) :: r) σ
    | q + 1 => zGo nx ls (zR q :: r) σ) none
  | _ => none
def o_putf (ci j nx : Nat) : zOp := fun ls st σ => match st with
  | .inl x :: .inr (.inl k) :: r => cond (Nat.beq (zcl k) ci && Nat.beq (zfl k j) 0) (zGo nx ls r (zup σ k j x)) none
  | _ => none
def o_putz (ci j nx : Nat) : zOp := fun ls st σ => match st with
  | .inl x :: .inr (.inl k) :: r => cond (Nat.beq (zcl k) ci && Nat.beq (zfl k j) 0) (if x = 0 ∨ x = 1 then zGo nx ls r (zup σ k j x) else none) none
  | _ => none
def o_iald (nx : Nat) : zOp := fun ls st σ => match st with
  | .inl i :: .inr (.inl k) :: r => if 0 ≤ i ∧ i < zal k then zGo nx ls (zI (σ k i.toNat) :: r) σ else none
  | _ => none
def o_iast (nx : Nat) : zOp := fun ls st σ => match st with
  | .inl x :: .inl i :: .inr (.inl k) :: r => if 0 ≤ i ∧ i < zal k then zGo nx ls r (zup σ k i.toNat x) else none
  | _ => none
def o_aald (nx : Nat) : zOp := fun ls st σ => match st with
  | .inl i :: .inr (.inl k) :: r => cond (Nat.beq k 63) (if i = 0 then zGo nx ls (zR 3 :: r) σ else if i = 1 then zGo nx ls (zR 4 :: r) σ else if i = 2 then zGo nx ls (zR 5 :: r) σ else if i = 3 then zGo nx ls (zR 6 :: r) σ else none) none
  | _ => none
/-- a callee's locals -/
def zlay (as : List zVal) : zLc := match as with
  | [] => []
  | .inr (.inr x) :: r => some (zL x) :: none :: zlay r
  | .inl x :: r => some (zI x) :: zlay r
  | .inr (.inl x) :: r => some (zR x) :: zlay r
/-- a static call: n arguments -/
def o_call (m n nl rk nx : Nat) : zOp := fun ls st σ => cond (Nat.ble n st.length && Nat.ble (st.drop n).length 4 && Nat.ble (zlay (st.take n).reverse).length nl) (some (Sum.inr (Sum.inr (Sum.inl (m, (st.take n).reverse, nl, rk, (nx, ls, st.drop n, σ)))))) none
/-- a call of a method of an object: n arguments with it -/
def o_callv (ci m n nl rk nx : Nat) : zOp := fun ls st σ => match (st.take n).reverse with
  | .inr (.inl k) :: as => cond (Nat.beq (zcl k) ci && Nat.ble n st.length && Nat.ble (st.drop n).length 4 && Nat.ble (zlay (zR k :: as)).length nl) (some (Sum.inr (Sum.inr (Sum.inl (m, zR k :: as, nl, rk, (nx, ls, st.drop n, σ)))))) none
  | _ => none
def o_max (nx : Nat) : zOp := fun ls st σ => match st with
  | .inl y :: .inl x :: r => cond (Nat.ble r.length 6) (zGo nx ls (zI (max x y) :: r) σ) none
  | _ => none
def o_min (nx : Nat) : zOp := fun ls st σ => match st with
  | .inl y :: .inl x :: r => cond (Nat.ble r.length 6) (zGo nx ls (zI (min x y) :: r) σ) none
  | _ => none
def o_copy (nx : Nat) : zOp := fun ls st σ => match st with
  | .inl n :: .inl dp :: .inr (.inl d) :: .inl sp :: .inr (.inl a) :: r => if sp = 0 ∧ dp = 0 ∧ 0 < n ∧ n ≤ zal a ∧ n ≤ zal d ∧ r = [] then zGo nx ls r (zcp σ a d n.toNat) else none
  | _ => none
def zsw (x : Int) (l : List (Int × Nat)) (d : Nat) : Nat := match l with
  | [] => d
  | (a, t) :: r => if x = a then t else zsw x r d
def o_sw (l : List (Int × Nat)) (d : Nat) : zOp := fun ls st σ => match st with
  | .inl x :: r => zGo (zsw x l d) ls r σ
  | _ => none
def o_ret : zOp := fun _ st σ => match st with
  | [] => some (Sum.inr (Sum.inl (none, σ)))
  | _ => none
def o_iret : zOp := fun _ st σ => match st with
  | [.inl x] => some (Sum.inr (Sum.inl (some (zI x), σ)))
  | _ => none
/-- the answer of a boolean method -/
def o_zret : zOp := fun _ st σ => match st with
  | [.inl x] => if x = 0 ∨ x = 1 then some (Sum.inr (Sum.inl (some (zI x), σ))) else none
  | _ => none
def o_lret : zOp := fun _ st σ => match st with
  | [.inr (.inr x)] => some (Sum.inr (Sum.inl (some (zL x), σ)))
  | _ => none
def o_thr (e : Nat) : zOp := fun _ st _ => match st with
  | [] => some (Sum.inr (Sum.inr (Sum.inr e)))
  | _ => none
/-- a leaf of a table -/
def zlf (pc k : Nat) (f : zOp) : zOp := cond (Nat.beq pc k) f o_no
def znd (pc k : Nat) (f g : zOp) : zOp := cond (Nat.ble pc k) f g
def zpad (n : Nat) (l : zLc) : zLc := l ++ List.replicate (n - l.length) none
abbrev zOut : Type := (Option zVal × zSt) ⊕ Nat
def zrk (rk : Nat) (v : Option zVal) : Option (List zVal) := match rk, v with
  | 0, none => some []
  | 1, some (.inl x) => some [zI x]
  | 2, some (.inr (.inr x)) => some [zL x]
  | _, _ => none
end
section
/-! ===== 03: the methods, by number: their names, code, locals, kinds of answer, heights; their steps (written by a program out of the listing) ===== -/
abbrev zI4 : Type := MethodName × ByteArray × Nat × Option FieldType × Nat
def zm_no : zI4 := (⟨"", "", ""⟩, ⟨#[]⟩, 0, none, 0)
def zm_0 : zI4 := (yX4_begin, cX4_begin, 3, (some .int), 3)
def zm_1 : zI4 := (yX4_addJob, cX4_addJob, 3, (some .int), 3)
def zm_2 : zI4 := (yX4_addOperation, cX4_addOperation, 4, (some .int), 3)
def zm_3 : zI4 := (yX4_breakDown, cX4_breakDown, 4, (some .int), 3)
def zm_4 : zI4 := (yX4_repaired, cX4_repaired, 1, (some .int), 3)
def zm_5 : zI4 := (yX4_plan, cX4_plan, 2, (some .int), 5)
def zm_6 : zI4 := (yX4_shift, cX4_shift, 1, (some .int), 4)
def zm_7 : zI4 := (yX4_replan, cX4_replan, 3, (some .int), 4)
def zm_8 : zI4 := (yX4_accept, cX4_accept, 1, (some .int), 3)
def zm_9 : zI4 := (yX4_bargain, cX4_bargain, 3, (some .int), 3)
def zm_10 : zI4 := (yX4_overtime, cX4_overtime, 4, (some .int), 3)
def zm_11 : zI4 := (yX4_job, cX4_job, 3, (some .int), 3)
def zm_12 : zI4 := (yX4_operation, cX4_operation, 5, (some .int), 2)
def zm_13 : zI4 := (yX4_breakdown, cX4_breakdown, 3, (some .int), 1)
def zm_14 : zI4 := (yX4_value, cX4_value, 2, (some .int), 5)
def zm_15 : zI4 := (yX4_meeting, cX4_meeting, 1, (some .int), 2)
def zm_16 : zI4 := (yX4_onMachine, cX4_onMachine, 3, (some .int), 3)
def zm_17 : zI4 := (yX4_latenessBy, cX4_latenessBy, 2, (some .int), 6)
def zm_18 : zI4 := (yX4_bestRule, cX4_bestRule, 5, (some .int), 6)
def zm_19 : zI4 := (yX4_latenessShifted, cX4_latenessShifted, 1, (some .int), 5)
def zm_20 : zI4 := (yX4_bestReplan, cX4_bestReplan, 6, (some .int), 6)
def zm_21 : zI4 := (yX4_bestOvertime, cX4_bestOvertime, 7, (some .int), 7)
def zm_22 : zI4 := (yX4_append, cX4_append, 2, (some .int), 1)
def zm_23 : zI4 := (yX4_clearText, cX4_clearText, 2, (some .int), 0)
def zm_24 : zI4 := (yX4_carryOut, cX4_carryOut, 4, (some .int), 6)
def zm_25 : zI4 := (yX4_undo, cX4_undo, 1, (some .int), 3)
def zm_26 : zI4 := (yX4_digest, cX4_digest, 5, (some .long), 6)
def zm_27 : zI4 := (yX4_joinedJob, cX4_joinedJob, 8, (some .long), 4)
def zm_28 : zI4 := (yX4_joined, cX4_joined, 3, (some .long), 0)
def zm_29 : zI4 := (yX4_valueOfPlans, cX4_valueOfPlans, 2, (some .int), 4)
def zm_30 : zI4 := (yX4_takeNewPlan, cX4_takeNewPlan, 2, (some .int), 4)
def zm_31 : zI4 := (yX4_latenessWithOvertime, cX4_latenessWithOvertime, 4, (some .int), 6)
def zm_32 : zI4 := (yX4_carriesOutOrder, cX4_carriesOutOrder, 4, (some .boolean), 5)
def zm_33 : zI4 := (yX4_isBetween, cX4_isBetween, 3, (some .boolean), 0)
def zm_34 : zI4 := (yX4_isRule, cX4_isRule, 1, (some .boolean), 1)
def zm_35 : zI4 := (yX4_slotOf, cX4_slotOf, 2, (some .int), 0)
def zm_36 : zI4 := (yX5_thrown, cX5_thrown, 1, (some .int), 0)
def zm_37 : zI4 := (yX5_copy, cX5_copy, 5, none, 0)
def zm_38 : zI4 := (yX5_within, cX5_within, 3, (some .boolean), 0)
def zm_39 : zI4 := (yX5_save, cX5_save, 2, none, 1)
def zm_40 : zI4 := (yX5_isMachine, cX5_isMachine, 2, (some .boolean), 1)
def zm_41 : zI4 := (yX5_isJob, cX5_isJob, 2, (some .boolean), 1)
def zm_42 : zI4 := (yX5_jobPart, cX5_jobPart, 3, (some .int), 0)
def zm_43 : zI4 := (yX5_placeOf, cX5_placeOf, 2, (some .int), 0)
def zm_44 : zI4 := (yX5_part, cX5_part, 4, (some .int), 1)
def zm_45 : zI4 := (yX5_isOperation, cX5_isOperation, 3, (some .boolean), 2)
def zm_46 : zI4 := (yX5_breakPart, cX5_breakPart, 3, (some .int), 0)
def zm_47 : zI4 := (yX5_begin, cX5_begin, 3, (some .int), 2)
def zm_48 : zI4 := (yX5_whyNoJob, cX5_whyNoJob, 3, (some .int), 1)
def zm_49 : zI4 := (yX5_putJob, cX5_putJob, 4, (some .int), 0)
def zm_50 : zI4 := (yX5_addJob, cX5_addJob, 3, (some .int), 2)
def zm_51 : zI4 := (yX5_whyNoOperation, cX5_whyNoOperation, 4, (some .int), 2)
def zm_52 : zI4 := (yX5_putOperation, cX5_putOperation, 5, (some .int), 1)
def zm_53 : zI4 := (yX5_addOperation, cX5_addOperation, 4, (some .int), 3)
def zm_54 : zI4 := (yX5_whyNoBreakdown, cX5_whyNoBreakdown, 4, (some .int), 2)
def zm_55 : zI4 := (yX5_putBreakdown, cX5_putBreakdown, 5, (some .int), 0)
def zm_56 : zI4 := (yX5_breakDown, cX5_breakDown, 4, (some .int), 3)
def zm_57 : zI4 := (yX5_repaired, cX5_repaired, 1, (some .int), 2)
def zm_58 : zI4 := (yX5_hits, cX5_hits, 10, (some .int), 2)
def zm_59 : zI4 := (yX5_free, cX5_free, 6, (some .int), 3)
def zm_60 : zI4 := (yX5_endOf, cX5_endOf, 4, (some .int), 2)
def zm_61 : zI4 := (yX5_nextOf, cX5_nextOf, 3, (some .int), 2)
def zm_62 : zI4 := (yX5_earliest, cX5_earliest, 8, (some .int), 4)
def zm_63 : zI4 := (yX5_ranked, cX5_ranked, 4, (some .int), 2)
def zm_64 : zI4 := (yX5_fill, cX5_fill, 11, none, 5)
def zm_65 : zI4 := (yX5_latenessOf, cX5_latenessOf, 5, (some .int), 3)
def zm_66 : zI4 := (yX5_lateness, cX5_lateness, 4, (some .int), 4)
def zm_67 : zI4 := (yX5_copyStarts, cX5_copyStarts, 6, (some .int), 2)
def zm_68 : zI4 := (yX5_makePlan, cX5_makePlan, 4, none, 6)
def zm_69 : zI4 := (yX5_isRule, cX5_isRule, 1, (some .boolean), 1)
def zm_70 : zI4 := (yX5_plan, cX5_plan, 2, (some .int), 7)
def zm_71 : zI4 := (yX5_shifted, cX5_shifted, 8, (some .int), 4)
def zm_72 : zI4 := (yX5_shiftPlan, cX5_shiftPlan, 5, none, 5)
def zm_73 : zI4 := (yX5_hasPlan, cX5_hasPlan, 1, (some .boolean), 0)
def zm_74 : zI4 := (yX5_shift, cX5_shift, 1, (some .int), 6)
def zm_75 : zI4 := (yX5_planAnew, cX5_planAnew, 7, none, 6)
def zm_76 : zI4 := (yX5_isMoment, cX5_isMoment, 1, (some .boolean), 1)
def zm_77 : zI4 := (yX5_replan, cX5_replan, 3, (some .int), 7)
def zm_78 : zI4 := (yX5_accept, cX5_accept, 1, (some .int), 3)
def zm_79 : zI4 := (yX5_bargain, cX5_bargain, 3, (some .int), 2)
def zm_80 : zI4 := (yX5_overtime, cX5_overtime, 3, (some .int), 3)
def zm_81 : zI4 := (yX5_jobValue, cX5_jobValue, 6, (some .int), 4)
def zm_82 : zI4 := (yX5_job, cX5_job, 3, (some .int), 5)
def zm_83 : zI4 := (yX5_isHit, cX5_isHit, 3, (some .int), 3)
def zm_84 : zI4 := (yX5_operationValue, cX5_operationValue, 4, (some .int), 4)
def zm_85 : zI4 := (yX5_operation, cX5_operation, 4, (some .int), 5)
def zm_86 : zI4 := (yX5_breakdown, cX5_breakdown, 3, (some .int), 1)
def zm_87 : zI4 := (yX5_greatestEnd, cX5_greatestEnd, 4, (some .int), 3)
def zm_88 : zI4 := (yX5_operationMany, cX5_operationMany, 3, (some .int), 1)
def zm_89 : zI4 := (yX5_hitMany, cX5_hitMany, 4, (some .int), 4)
def zm_90 : zI4 := (yX5_valueOf, cX5_valueOf, 2, (some .int), 5)
def zm_91 : zI4 := (yX5_value, cX5_value, 2, (some .int), 6)
def zm_92 : zI4 := (yX5_meetingOf, cX5_meetingOf, 5, (some .int), 2)
def zm_93 : zI4 := (yX5_meeting, cX5_meeting, 1, (some .int), 3)
def zm_94 : zI4 := (yX5_aheadOf, cX5_aheadOf, 6, (some .int), 2)
def zm_95 : zI4 := (yX5_onMachine, cX5_onMachine, 6, (some .int), 3)
def zm_96 : zI4 := (yX5_latenessPlanned, cX5_latenessPlanned, 3, (some .int), 7)
def zm_97 : zI4 := (yX5_latenessBy, cX5_latenessBy, 2, (some .int), 8)
def zm_98 : zI4 := (yX5_bestRule, cX5_bestRule, 3, (some .int), 8)
def zm_99 : zI4 := (yX5_latenessOfShift, cX5_latenessOfShift, 2, (some .int), 6)
def zm_100 : zI4 := (yX5_latenessShifted, cX5_latenessShifted, 1, (some .int), 7)
def zm_101 : zI4 := (yX5_bestReplan, cX5_bestReplan, 7, (some .int), 7)
def zm_102 : zI4 := (yX5_bestOvertime, cX5_bestOvertime, 7, (some .int), 8)
def zm_103 : zI4 := (yX5_append, cX5_append, 2, (some .int), 1)
def zm_104 : zI4 := (yX5_clearText, cX5_clearText, 2, (some .int), 0)
def zm_105 : zI4 := (yX5_next, cX5_next, 1, (some .int), 0)
def zm_106 : zI4 := (yX5_takes, cX5_takes, 3, (some .boolean), 1)
def zm_107 : zI4 := (yX5_digit, cX5_digit, 5, (some .int), 1)
def zm_108 : zI4 := (yX5_number, cX5_number, 6, (some .int), 1)
def zm_109 : zI4 := (yX5_readsJob, cX5_readsJob, 1, (some .boolean), 2)
def zm_110 : zI4 := (yX5_readsOperation, cX5_readsOperation, 1, (some .boolean), 2)
def zm_111 : zI4 := (yX5_readsBreakdown, cX5_readsBreakdown, 1, (some .boolean), 2)
def zm_112 : zI4 := (yX5_readsOrder, cX5_readsOrder, 2, (some .boolean), 3)
def zm_113 : zI4 := (yX5_carriesOut, cX5_carriesOut, 2, (some .boolean), 7)
def zm_114 : zI4 := (yX5_carryOut, cX5_carryOut, 4, (some .int), 8)
def zm_115 : zI4 := (yX5_undo, cX5_undo, 1, (some .int), 1)
def zm_116 : zI4 := (yX5_digest, cX5_digest, 6, (some .long), 7)
def zm_117 : zI4 := (yX0_save, cX0_save, 2, none, 2)
def zm_118 : zI4 := (yX0_restore, cX0_restore, 2, none, 2)
def zm_119 : zI4 := (yX1_startOver, cX1_startOver, 1, none, 0)
def zm_120 : zI4 := (yX1_findError, cX1_findError, 2, (some .int), 5)
def zm_121 : zI4 := (yX1_readsOrder, cX1_readsOrder, 1, (some .boolean), 4)
def zm_122 : zI4 := (yX1_readJob, cX1_readJob, 1, none, 3)
def zm_123 : zI4 := (yX1_readOperation, cX1_readOperation, 1, none, 3)
def zm_124 : zI4 := (yX1_readBreakdown, cX1_readBreakdown, 1, none, 3)
def zm_125 : zI4 := (yX1_nextByte, cX1_nextByte, 1, (some .int), 0)
def zm_126 : zI4 := (yX1_isAtDigit, cX1_isAtDigit, 1, (some .boolean), 1)
def zm_127 : zI4 := (yX1_readSign, cX1_readSign, 2, none, 1)
def zm_128 : zI4 := (yX1_readDigit, cX1_readDigit, 4, (some .int), 1)
def zm_129 : zI4 := (yX1_readNumber, cX1_readNumber, 7, (some .int), 2)
def zm_130 : zI4 := (yX2_copyDraftTo, cX2_copyDraftTo, 2, none, 1)
def zm_131 : zI4 := (yX2_latenessOfDraft, cX2_latenessOfDraft, 1, (some .int), 4)
def zm_132 : zI4 := (yX2_latenessOfNew, cX2_latenessOfNew, 2, (some .int), 5)
def zm_133 : zI4 := (yX2_latenessOfReplan, cX2_latenessOfReplan, 3, (some .int), 5)
def zm_134 : zI4 := (yX2_draftNew, cX2_draftNew, 2, none, 3)
def zm_135 : zI4 := (yX2_draftFrom, cX2_draftFrom, 4, none, 3)
def zm_136 : zI4 := (yX2_clearDraft, cX2_clearDraft, 2, none, 0)
def zm_137 : zI4 := (yX2_keepUntil, cX2_keepUntil, 6, none, 2)
def zm_138 : zI4 := (yX2_fill, cX2_fill, 8, none, 2)
def zm_139 : zI4 := (yX2_draftShifted, cX2_draftShifted, 6, none, 2)
def zm_140 : zI4 := (yX2_waitUntil, cX2_waitUntil, 5, (some .int), 1)
def zm_141 : zI4 := (yX2_machineFreeFrom, cX2_machineFreeFrom, 2, (some .int), 0)
def zm_142 : zI4 := (yX2_setStart, cX2_setStart, 5, none, 1)
def zm_143 : zI4 := (yX2_rank, cX2_rank, 3, (some .int), 1)
def zm_144 : zI4 := (yX3_empty, cX3_empty, 2, none, 0)
def zm_145 : zI4 := (yX3_copyFrom, cX3_copyFrom, 2, none, 1)
def zm_146 : zI4 := (yX3_hasMachine, cX3_hasMachine, 2, (some .boolean), 0)
def zm_147 : zI4 := (yX3_hasJob, cX3_hasJob, 2, (some .boolean), 0)
def zm_148 : zI4 := (yX3_hasOperation, cX3_hasOperation, 3, (some .boolean), 1)
def zm_149 : zI4 := (yX3_hasBreakdown, cX3_hasBreakdown, 2, (some .boolean), 0)
def zm_150 : zI4 := (yX3_takesJob, cX3_takesJob, 1, (some .boolean), 0)
def zm_151 : zI4 := (yX3_takesOperation, cX3_takesOperation, 2, (some .boolean), 0)
def zm_152 : zI4 := (yX3_takesBreakdown, cX3_takesBreakdown, 1, (some .boolean), 0)
def zm_153 : zI4 := (yX3_takeJob, cX3_takeJob, 3, (some .int), 0)
def zm_154 : zI4 := (yX3_takeOperation, cX3_takeOperation, 5, (some .int), 1)
def zm_155 : zI4 := (yX3_takeBreakdown, cX3_takeBreakdown, 4, (some .int), 0)
def zm_156 : zI4 := (yX3_countOperations, cX3_countOperations, 3, (some .int), 0)
def zm_157 : zI4 := (yX3_workOf, cX3_workOf, 4, (some .int), 1)
def zm_158 : zI4 := (yX3_allWork, cX3_allWork, 3, (some .int), 2)
def zm_159 : zI4 := (yX3_endOf, cX3_endOf, 4, (some .int), 1)
def zm_160 : zI4 := (yX3_latenessOfJob, cX3_latenessOfJob, 3, (some .int), 2)
def zm_161 : zI4 := (yX3_latenessOf, cX3_latenessOf, 4, (some .int), 3)
def zm_162 : zI4 := (yX3_greatestEnd, cX3_greatestEnd, 3, (some .int), 2)
def zm_163 : zI4 := (yX3_startWithoutHit, cX3_startWithoutHit, 7, (some .int), 1)
def zm_164 : zI4 := (yX3_hits, cX3_hits, 4, (some .boolean), 1)
def zm_165 : zI4 := (yX3_hitsOne, cX3_hitsOne, 4, (some .boolean), 0)
def zm_166 : zI4 := (yX3_countHits, cX3_countHits, 5, (some .int), 2)
def zm_167 : zI4 := (yX3_meetingTime, cX3_meetingTime, 5, (some .int), 1)
def zm_168 : zI4 := (yX3_acceptPresent, cX3_acceptPresent, 5, (some .int), 1)
def zm_169 : zI4 := (yX3_codeAt, cX3_codeAt, 6, (some .int), 2)
def zm_170 : zI4 := (yX3_countBefore, cX3_countBefore, 7, (some .int), 1)
def zmi (m : Nat) : zI4 := (cond (Nat.ble m 84) (cond (Nat.ble m 41) (cond (Nat.ble m 20) (cond (Nat.ble m 9) (cond (Nat.ble m 4) (cond (Nat.ble m 1) (cond (Nat.ble m 0) (cond (Nat.beq m 0) zm_0 zm_no) (cond (Nat.beq m 1) zm_1 zm_no)) (cond (Nat.ble m 2) (cond (Nat.beq m 2) zm_2 zm_no) (cond (Nat.ble m 3) (cond (Nat.beq m 3) zm_3 zm_no) (cond (Nat.beq m 4) zm_4 zm_no)))) (cond (Nat.ble m 6) (cond (Nat.ble m 5) (cond (Nat.beq m 5) zm_5 zm_no) (cond (Nat.beq m 6) zm_6 zm_no)) (cond (Nat.ble m 7) (cond (Nat.beq m 7) zm_7 zm_no) (cond (Nat.ble m 8) (cond (Nat.beq m 8) zm_8 zm_no) (cond (Nat.beq m 9) zm_9 zm_no))))) (cond (Nat.ble m 14) (cond (Nat.ble m 11) (cond (Nat.ble m 10) (cond (Nat.beq m 10) zm_10 zm_no) (cond (Nat.beq m 11) zm_11 zm_no)) (cond (Nat.ble m 12) (cond (Nat.beq m 12) zm_12 zm_no) (cond (Nat.ble m 13) (cond (Nat.beq m 13) zm_13 zm_no) (cond (Nat.beq m 14) zm_14 zm_no)))) (cond (Nat.ble m 17) (cond (Nat.ble m 15) (cond (Nat.beq m 15) zm_15 zm_no) (cond (Nat.ble m 16) (cond (Nat.beq m 16) zm_16 zm_no) (cond (Nat.beq m 17) zm_17 zm_no))) (cond (Nat.ble m 18) (cond (Nat.beq m 18) zm_18 zm_no) (cond (Nat.ble m 19) (cond (Nat.beq m 19) zm_19 zm_no) (cond (Nat.beq m 20) zm_20 zm_no)))))) (cond (Nat.ble m 30) (cond (Nat.ble m 25) (cond (Nat.ble m 22) (cond (Nat.ble m 21) (cond (Nat.beq m 21) zm_21 zm_no) (cond (Nat.beq m 22) zm_22 zm_no)) (cond (Nat.ble m 23) (cond (Nat.beq m 23) zm_23 zm_no) (cond (Nat.ble m 24) (cond (Nat.beq m 24) zm_24 zm_no) (cond (Nat.beq m 25) zm_25 zm_no)))) (cond (Nat.ble m 27) (cond (Nat.ble m 26) (cond (Nat.beq m 26) zm_26 zm_no) (cond (Nat.beq m 27) zm_27 zm_no)) (cond (Nat.ble m 28) (cond (Nat.beq m 28) zm_28 zm_no) (cond (Nat.ble m 29) (cond (Nat.beq m 29) zm_29 zm_no) (cond (Nat.beq m 30) zm_30 zm_no))))) (cond (Nat.ble m 35) (cond (Nat.ble m 32) (cond (Nat.ble m 31) (cond (Nat.beq m 31) zm_31 zm_no) (cond (Nat.beq m 32) zm_32 zm_no)) (cond (Nat.ble m 33) (cond (Nat.beq m 33) zm_33 zm_no) (cond (Nat.ble m 34) (cond (Nat.beq m 34) zm_34 zm_no) (cond (Nat.beq m 35) zm_35 zm_no)))) (cond (Nat.ble m 38) (cond (Nat.ble m 36) (cond (Nat.beq m 36) zm_36 zm_no) (cond (Nat.ble m 37) (cond (Nat.beq m 37) zm_37 zm_no) (cond (Nat.beq m 38) zm_38 zm_no))) (cond (Nat.ble m 39) (cond (Nat.beq m 39) zm_39 zm_no) (cond (Nat.ble m 40) (cond (Nat.beq m 40) zm_40 zm_no) (cond (Nat.beq m 41) zm_41 zm_no))))))) (cond (Nat.ble m 62) (cond (Nat.ble m 51) (cond (Nat.ble m 46) (cond (Nat.ble m 43) (cond (Nat.ble m 42) (cond (Nat.beq m 42) zm_42 zm_no) (cond (Nat.beq m 43) zm_43 zm_no)) (cond (Nat.ble m 44) (cond (Nat.beq m 44) zm_44 zm_no) (cond (Nat.ble m 45) (cond (Nat.beq m 45) zm_45 zm_no) (cond (Nat.beq m 46) zm_46 zm_no)))) (cond (Nat.ble m 48) (cond (Nat.ble m 47) (cond (Nat.beq m 47) zm_47 zm_no) (cond (Nat.beq m 48) zm_48 zm_no)) (cond (Nat.ble m 49) (cond (Nat.beq m 49) zm_49 zm_no) (cond (Nat.ble m 50) (cond (Nat.beq m 50) zm_50 zm_no) (cond (Nat.beq m 51) zm_51 zm_no))))) (cond (Nat.ble m 56) (cond (Nat.ble m 53) (cond (Nat.ble m 52) (cond (Nat.beq m 52) zm_52 zm_no) (cond (Nat.beq m 53) zm_53 zm_no)) (cond (Nat.ble m 54) (cond (Nat.beq m 54) zm_54 zm_no) (cond (Nat.ble m 55) (cond (Nat.beq m 55) zm_55 zm_no) (cond (Nat.beq m 56) zm_56 zm_no)))) (cond (Nat.ble m 59) (cond (Nat.ble m 57) (cond (Nat.beq m 57) zm_57 zm_no) (cond (Nat.ble m 58) (cond (Nat.beq m 58) zm_58 zm_no) (cond (Nat.beq m 59) zm_59 zm_no))) (cond (Nat.ble m 60) (cond (Nat.beq m 60) zm_60 zm_no) (cond (Nat.ble m 61) (cond (Nat.beq m 61) zm_61 zm_no) (cond (Nat.beq m 62) zm_62 zm_no)))))) (cond (Nat.ble m 73) (cond (Nat.ble m 67) (cond (Nat.ble m 64) (cond (Nat.ble m 63) (cond (Nat.beq m 63) zm_63 zm_no) (cond (Nat.beq m 64) zm_64 zm_no)) (cond (Nat.ble m 65) (cond (Nat.beq m 65) zm_65 zm_no) (cond (Nat.ble m 66) (cond (Nat.beq m 66) zm_66 zm_no) (cond (Nat.beq m 67) zm_67 zm_no)))) (cond (Nat.ble m 70) (cond (Nat.ble m 68) (cond (Nat.beq m 68) zm_68 zm_no) (cond (Nat.ble m 69) (cond (Nat.beq m 69) zm_69 zm_no) (cond (Nat.beq m 70) zm_70 zm_no))) (cond (Nat.ble m 71) (cond (Nat.beq m 71) zm_71 zm_no) (cond (Nat.ble m 72) (cond (Nat.beq m 72) zm_72 zm_no) (cond (Nat.beq m 73) zm_73 zm_no))))) (cond (Nat.ble m 78) (cond (Nat.ble m 75) (cond (Nat.ble m 74) (cond (Nat.beq m 74) zm_74 zm_no) (cond (Nat.beq m 75) zm_75 zm_no)) (cond (Nat.ble m 76) (cond (Nat.beq m 76) zm_76 zm_no) (cond (Nat.ble m 77) (cond (Nat.beq m 77) zm_77 zm_no) (cond (Nat.beq m 78) zm_78 zm_no)))) (cond (Nat.ble m 81) (cond (Nat.ble m 79) (cond (Nat.beq m 79) zm_79 zm_no) (cond (Nat.ble m 80) (cond (Nat.beq m 80) zm_80 zm_no) (cond (Nat.beq m 81) zm_81 zm_no))) (cond (Nat.ble m 82) (cond (Nat.beq m 82) zm_82 zm_no) (cond (Nat.ble m 83) (cond (Nat.beq m 83) zm_83 zm_no) (cond (Nat.beq m 84) zm_84 zm_no)))))))) (cond (Nat.ble m 127) (cond (Nat.ble m 105) (cond (Nat.ble m 94) (cond (Nat.ble m 89) (cond (Nat.ble m 86) (cond (Nat.ble m 85) (cond (Nat.beq m 85) zm_85 zm_no) (cond (Nat.beq m 86) zm_86 zm_no)) (cond (Nat.ble m 87) (cond (Nat.beq m 87) zm_87 zm_no) (cond (Nat.ble m 88) (cond (Nat.beq m 88) zm_88 zm_no) (cond (Nat.beq m 89) zm_89 zm_no)))) (cond (Nat.ble m 91) (cond (Nat.ble m 90) (cond (Nat.beq m 90) zm_90 zm_no) (cond (Nat.beq m 91) zm_91 zm_no)) (cond (Nat.ble m 92) (cond (Nat.beq m 92) zm_92 zm_no) (cond (Nat.ble m 93) (cond (Nat.beq m 93) zm_93 zm_no) (cond (Nat.beq m 94) zm_94 zm_no))))) (cond (Nat.ble m 99) (cond (Nat.ble m 96) (cond (Nat.ble m 95) (cond (Nat.beq m 95) zm_95 zm_no) (cond (Nat.beq m 96) zm_96 zm_no)) (cond (Nat.ble m 97) (cond (Nat.beq m 97) zm_97 zm_no) (cond (Nat.ble m 98) (cond (Nat.beq m 98) zm_98 zm_no) (cond (Nat.beq m 99) zm_99 zm_no)))) (cond (Nat.ble m 102) (cond (Nat.ble m 100) (cond (Nat.beq m 100) zm_100 zm_no) (cond (Nat.ble m 101) (cond (Nat.beq m 101) zm_101 zm_no) (cond (Nat.beq m 102) zm_102 zm_no))) (cond (Nat.ble m 103) (cond (Nat.beq m 103) zm_103 zm_no) (cond (Nat.ble m 104) (cond (Nat.beq m 104) zm_104 zm_no) (cond (Nat.beq m 105) zm_105 zm_no)))))) (cond (Nat.ble m 116) (cond (Nat.ble m 110) (cond (Nat.ble m 107) (cond (Nat.ble m 106) (cond (Nat.beq m 106) zm_106 zm_no) (cond (Nat.beq m 107) zm_107 zm_no)) (cond (Nat.ble m 108) (cond (Nat.beq m 108) zm_108 zm_no) (cond (Nat.ble m 109) (cond (Nat.beq m 109) zm_109 zm_no) (cond (Nat.beq m 110) zm_110 zm_no)))) (cond (Nat.ble m 113) (cond (Nat.ble m 111) (cond (Nat.beq m 111) zm_111 zm_no) (cond (Nat.ble m 112) (cond (Nat.beq m 112) zm_112 zm_no) (cond (Nat.beq m 113) zm_113 zm_no))) (cond (Nat.ble m 114) (cond (Nat.beq m 114) zm_114 zm_no) (cond (Nat.ble m 115) (cond (Nat.beq m 115) zm_115 zm_no) (cond (Nat.beq m 116) zm_116 zm_no))))) (cond (Nat.ble m 121) (cond (Nat.ble m 118) (cond (Nat.ble m 117) (cond (Nat.beq m 117) zm_117 zm_no) (cond (Nat.beq m 118) zm_118 zm_no)) (cond (Nat.ble m 119) (cond (Nat.beq m 119) zm_119 zm_no) (cond (Nat.ble m 120) (cond (Nat.beq m 120) zm_120 zm_no) (cond (Nat.beq m 121) zm_121 zm_no)))) (cond (Nat.ble m 124) (cond (Nat.ble m 122) (cond (Nat.beq m 122) zm_122 zm_no) (cond (Nat.ble m 123) (cond (Nat.beq m 123) zm_123 zm_no) (cond (Nat.beq m 124) zm_124 zm_no))) (cond (Nat.ble m 125) (cond (Nat.beq m 125) zm_125 zm_no) (cond (Nat.ble m 126) (cond (Nat.beq m 126) zm_126 zm_no) (cond (Nat.beq m 127) zm_127 zm_no))))))) (cond (Nat.ble m 148) (cond (Nat.ble m 137) (cond (Nat.ble m 132) (cond (Nat.ble m 129) (cond (Nat.ble m 128) (cond (Nat.beq m 128) zm_128 zm_no) (cond (Nat.beq m 129) zm_129 zm_no)) (cond (Nat.ble m 130) (cond (Nat.beq m 130) zm_130 zm_no) (cond (Nat.ble m 131) (cond (Nat.beq m 131) zm_131 zm_no) (cond (Nat.beq m 132) zm_132 zm_no)))) (cond (Nat.ble m 134) (cond (Nat.ble m 133) (cond (Nat.beq m 133) zm_133 zm_no) (cond (Nat.beq m 134) zm_134 zm_no)) (cond (Nat.ble m 135) (cond (Nat.beq m 135) zm_135 zm_no) (cond (Nat.ble m 136) (cond (Nat.beq m 136) zm_136 zm_no) (cond (Nat.beq m 137) zm_137 zm_no))))) (cond (Nat.ble m 142) (cond (Nat.ble m 139) (cond (Nat.ble m 138) (cond (Nat.beq m 138) zm_138 zm_no) (cond (Nat.beq m 139) zm_139 zm_no)) (cond (Nat.ble m 140) (cond (Nat.beq m 140) zm_140 zm_no) (cond (Nat.ble m 141) (cond (Nat.beq m 141) zm_141 zm_no) (cond (Nat.beq m 142) zm_142 zm_no)))) (cond (Nat.ble m 145) (cond (Nat.ble m 143) (cond (Nat.beq m 143) zm_143 zm_no) (cond (Nat.ble m 144) (cond (Nat.beq m 144) zm_144 zm_no) (cond (Nat.beq m 145) zm_145 zm_no))) (cond (Nat.ble m 146) (cond (Nat.beq m 146) zm_146 zm_no) (cond (Nat.ble m 147) (cond (Nat.beq m 147) zm_147 zm_no) (cond (Nat.beq m 148) zm_148 zm_no)))))) (cond (Nat.ble m 159) (cond (Nat.ble m 153) (cond (Nat.ble m 150) (cond (Nat.ble m 149) (cond (Nat.beq m 149) zm_149 zm_no) (cond (Nat.beq m 150) zm_150 zm_no)) (cond (Nat.ble m 151) (cond (Nat.beq m 151) zm_151 zm_no) (cond (Nat.ble m 152) (cond (Nat.beq m 152) zm_152 zm_no) (cond (Nat.beq m 153) zm_153 zm_no)))) (cond (Nat.ble m 156) (cond (Nat.ble m 154) (cond (Nat.beq m 154) zm_154 zm_no) (cond (Nat.ble m 155) (cond (Nat.beq m 155) zm_155 zm_no) (cond (Nat.beq m 156) zm_156 zm_no))) (cond (Nat.ble m 157) (cond (Nat.beq m 157) zm_157 zm_no) (cond (Nat.ble m 158) (cond (Nat.beq m 158) zm_158 zm_no) (cond (Nat.beq m 159) zm_159 zm_no))))) (cond (Nat.ble m 164) (cond (Nat.ble m 161) (cond (Nat.ble m 160) (cond (Nat.beq m 160) zm_160 zm_no) (cond (Nat.beq m 161) zm_161 zm_no)) (cond (Nat.ble m 162) (cond (Nat.beq m 162) zm_162 zm_no) (cond (Nat.ble m 163) (cond (Nat.beq m 163) zm_163 zm_no) (cond (Nat.beq m 164) zm_164 zm_no)))) (cond (Nat.ble m 167) (cond (Nat.ble m 165) (cond (Nat.beq m 165) zm_165 zm_no) (cond (Nat.ble m 166) (cond (Nat.beq m 166) zm_166 zm_no) (cond (Nat.beq m 167) zm_167 zm_no))) (cond (Nat.ble m 168) (cond (Nat.beq m 168) zm_168 zm_no) (cond (Nat.ble m 169) (cond (Nat.beq m 169) zm_169 zm_no) (cond (Nat.beq m 170) zm_170 zm_no)))))))))
def zmY (m : Nat) : MethodName := (zmi m).1
def zmB (m : Nat) : ByteArray := (zmi m).2.1
def zmX (m : Nat) : Nat := (zmi m).2.2.1
def zmR (m : Nat) : Option FieldType := (zmi m).2.2.2.1
def zmH (m : Nat) : Nat := (zmi m).2.2.2.2
/-- RepairShop.begin(I)I -/
def zc_0 (pc : Nat) : zOp := znd pc 24 (znd pc 6 (znd pc 1 (znd pc 0 (zlf pc 0 (o_iload 1 1)) (zlf pc 1 (o_const 2 2))) (znd pc 2 (zlf pc 2 (o_const 5 3)) (znd pc 3 (zlf pc 3 (o_call 33 3 3 1 6)) (zlf pc 6 (o_ifne 19 9))))) (znd pc 19 (znd pc 9 (zlf pc 9 (o_thr 1)) (zlf pc 19 (o_aload 0 20))) (znd pc 20 (zlf pc 20 (o_getf 5 2 23)) (znd pc 23 (zlf pc 23 (o_aload 0 24)) (zlf pc 24 (o_getf 5 1 27)))))) (znd pc 37 (znd pc 30 (znd pc 27 (zlf pc 27 (o_callv 1 117 2 2 0 30)) (zlf pc 30 (o_aload 0 31))) (znd pc 31 (zlf pc 31 (o_getf 5 1 34)) (znd pc 34 (zlf pc 34 (o_getf 4 1 37)) (zlf pc 37 (o_istore 2 38))))) (znd pc 42 (znd pc 38 (zlf pc 38 (o_aload 0 39)) (znd pc 39 (zlf pc 39 (o_getf 5 1 42)) (zlf pc 42 (o_iload 1 43)))) (znd pc 43 (zlf pc 43 (o_callv 4 144 2 2 0 46)) (znd pc 46 (zlf pc 46 (o_iload 2 47)) (zlf pc 47 (o_iret))))))
/-- RepairShop.addJob(II)I -/
def zc_1 (pc : Nat) : zOp := znd pc 32 (znd pc 10 (znd pc 2 (znd pc 0 (zlf pc 0 (o_iload 1 1)) (znd pc 1 (zlf pc 1 (o_const 1 2)) (zlf pc 2 (o_const 9 4)))) (znd pc 4 (zlf pc 4 (o_call 33 3 3 1 7)) (znd pc 7 (zlf pc 7 (o_ifeq 21 10)) (zlf pc 10 (o_iload 2 11))))) (znd pc 15 (znd pc 11 (zlf pc 11 (o_const 0 12)) (znd pc 12 (zlf pc 12 (o_const 999 15)) (zlf pc 15 (o_call 33 3 3 1 18)))) (znd pc 21 (znd pc 18 (zlf pc 18 (o_ifne 31 21)) (zlf pc 21 (o_thr 1))) (znd pc 31 (zlf pc 31 (o_aload 0 32)) (zlf pc 32 (o_getf 5 1 35)))))) (znd pc 56 (znd pc 41 (znd pc 35 (zlf pc 35 (o_callv 4 150 1 1 1 38)) (znd pc 38 (zlf pc 38 (o_ifne 51 41)) (zlf pc 41 (o_thr 2)))) (znd pc 52 (znd pc 51 (zlf pc 51 (o_aload 0 52)) (zlf pc 52 (o_getf 5 2 55))) (znd pc 55 (zlf pc 55 (o_aload 0 56)) (zlf pc 56 (o_getf 5 1 59))))) (znd pc 63 (znd pc 59 (zlf pc 59 (o_callv 1 117 2 2 0 62)) (znd pc 62 (zlf pc 62 (o_aload 0 63)) (zlf pc 63 (o_getf 5 1 66)))) (znd pc 67 (znd pc 66 (zlf pc 66 (o_iload 1 67)) (zlf pc 67 (o_iload 2 68))) (znd pc 68 (zlf pc 68 (o_callv 4 153 3 3 1 71)) (zlf pc 71 (o_iret))))))
/-- RepairShop.addOperation(III)I -/
def zc_2 (pc : Nat) : zOp := znd pc 42 (znd pc 15 (znd pc 5 (znd pc 1 (znd pc 0 (zlf pc 0 (o_aload 0 1)) (zlf pc 1 (o_getf 5 1 4))) (znd pc 4 (zlf pc 4 (o_iload 1 5)) (zlf pc 5 (o_callv 4 147 2 2 1 8)))) (znd pc 11 (znd pc 8 (zlf pc 8 (o_ifeq 22 11)) (zlf pc 11 (o_aload 0 12))) (znd pc 12 (zlf pc 12 (o_getf 5 1 15)) (zlf pc 15 (o_iload 2 16))))) (znd pc 32 (znd pc 19 (znd pc 16 (zlf pc 16 (o_callv 4 146 2 2 1 19)) (zlf pc 19 (o_ifne 32 22))) (znd pc 22 (zlf pc 22 (o_thr 3)) (zlf pc 32 (o_iload 3 33)))) (znd pc 34 (znd pc 33 (zlf pc 33 (o_const 1 34)) (zlf pc 34 (o_const 20 36))) (znd pc 36 (zlf pc 36 (o_call 33 3 3 1 39)) (znd pc 39 (zlf pc 39 (o_ifne 52 42)) (zlf pc 42 (o_thr 1))))))) (znd pc 77 (znd pc 57 (znd pc 53 (znd pc 52 (zlf pc 52 (o_aload 0 53)) (zlf pc 53 (o_getf 5 1 56))) (znd pc 56 (zlf pc 56 (o_iload 1 57)) (zlf pc 57 (o_callv 4 151 2 2 1 60)))) (znd pc 63 (znd pc 60 (zlf pc 60 (o_ifne 73 63)) (zlf pc 63 (o_thr 2))) (znd pc 73 (zlf pc 73 (o_aload 0 74)) (znd pc 74 (zlf pc 74 (o_getf 5 2 77)) (zlf pc 77 (o_aload 0 78)))))) (znd pc 85 (znd pc 81 (znd pc 78 (zlf pc 78 (o_getf 5 1 81)) (zlf pc 81 (o_callv 1 117 2 2 0 84))) (znd pc 84 (zlf pc 84 (o_aload 0 85)) (zlf pc 85 (o_getf 5 1 88)))) (znd pc 89 (znd pc 88 (zlf pc 88 (o_iload 1 89)) (zlf pc 89 (o_iload 2 90))) (znd pc 90 (zlf pc 90 (o_iload 3 91)) (znd pc 91 (zlf pc 91 (o_callv 4 154 4 5 1 94)) (zlf pc 94 (o_iret)))))))
/-- RepairShop.breakDown(III)I -/
def zc_3 (pc : Nat) : zOp := znd pc 42 (znd pc 22 (znd pc 5 (znd pc 1 (znd pc 0 (zlf pc 0 (o_aload 0 1)) (zlf pc 1 (o_getf 5 1 4))) (znd pc 4 (zlf pc 4 (o_iload 1 5)) (zlf pc 5 (o_callv 4 146 2 2 1 8)))) (znd pc 11 (znd pc 8 (zlf pc 8 (o_ifne 21 11)) (zlf pc 11 (o_thr 3))) (znd pc 21 (zlf pc 21 (o_iload 2 22)) (zlf pc 22 (o_const 0 23))))) (znd pc 32 (znd pc 26 (znd pc 23 (zlf pc 23 (o_const 500 26)) (zlf pc 26 (o_call 33 3 3 1 29))) (znd pc 29 (zlf pc 29 (o_ifeq 42 32)) (zlf pc 32 (o_iload 3 33)))) (znd pc 34 (znd pc 33 (zlf pc 33 (o_const 1 34)) (zlf pc 34 (o_const 50 36))) (znd pc 36 (zlf pc 36 (o_call 33 3 3 1 39)) (znd pc 39 (zlf pc 39 (o_ifne 52 42)) (zlf pc 42 (o_thr 1))))))) (znd pc 76 (znd pc 59 (znd pc 53 (znd pc 52 (zlf pc 52 (o_aload 0 53)) (zlf pc 53 (o_getf 5 1 56))) (znd pc 56 (zlf pc 56 (o_callv 4 152 1 1 1 59)) (zlf pc 59 (o_ifne 72 62)))) (znd pc 72 (znd pc 62 (zlf pc 62 (o_thr 2)) (zlf pc 72 (o_aload 0 73))) (znd pc 73 (zlf pc 73 (o_getf 5 2 76)) (zlf pc 76 (o_aload 0 77))))) (znd pc 84 (znd pc 80 (znd pc 77 (zlf pc 77 (o_getf 5 1 80)) (zlf pc 80 (o_callv 1 117 2 2 0 83))) (znd pc 83 (zlf pc 83 (o_aload 0 84)) (zlf pc 84 (o_getf 5 1 87)))) (znd pc 88 (znd pc 87 (zlf pc 87 (o_iload 1 88)) (zlf pc 88 (o_iload 2 89))) (znd pc 89 (zlf pc 89 (o_iload 3 90)) (znd pc 90 (zlf pc 90 (o_callv 4 155 4 4 1 93)) (zlf pc 93 (o_iret)))))))
/-- RepairShop.repaired()I -/
def zc_4 (pc : Nat) : zOp := znd pc 28 (znd pc 10 (znd pc 1 (znd pc 0 (zlf pc 0 (o_aload 0 1)) (zlf pc 1 (o_getf 5 1 4))) (znd pc 4 (zlf pc 4 (o_getf 4 7 7)) (znd pc 7 (zlf pc 7 (o_ifne 20 10)) (zlf pc 10 (o_thr 2))))) (znd pc 21 (znd pc 20 (zlf pc 20 (o_aload 0 21)) (zlf pc 21 (o_getf 5 2 24))) (znd pc 24 (zlf pc 24 (o_aload 0 25)) (znd pc 25 (zlf pc 25 (o_getf 5 1 28)) (zlf pc 28 (o_callv 1 117 2 2 0 31)))))) (znd pc 39 (znd pc 32 (znd pc 31 (zlf pc 31 (o_aload 0 32)) (zlf pc 32 (o_getf 5 1 35))) (znd pc 35 (zlf pc 35 (o_dup 36)) (znd pc 36 (zlf pc 36 (o_getf 4 7 39)) (zlf pc 39 (o_const 1 40))))) (znd pc 44 (znd pc 40 (zlf pc 40 (o_isub 41)) (znd pc 41 (zlf pc 41 (o_putf 4 7 44)) (zlf pc 44 (o_aload 0 45)))) (znd pc 45 (zlf pc 45 (o_getf 5 1 48)) (znd pc 48 (zlf pc 48 (o_getf 4 7 51)) (zlf pc 51 (o_iret))))))
/-- RepairShop.plan(I)I -/
def zc_5 (pc : Nat) : zOp := znd pc 18 (znd pc 4 (znd pc 0 (zlf pc 0 (o_iload 1 1)) (znd pc 1 (zlf pc 1 (o_call 34 1 1 1 4)) (zlf pc 4 (o_ifne 17 7)))) (znd pc 7 (zlf pc 7 (o_thr 1)) (znd pc 17 (zlf pc 17 (o_aload 0 18)) (zlf pc 18 (o_getf 5 2 21))))) (znd pc 25 (znd pc 21 (zlf pc 21 (o_aload 0 22)) (znd pc 22 (zlf pc 22 (o_getf 5 1 25)) (zlf pc 25 (o_callv 1 117 2 2 0 28)))) (znd pc 29 (znd pc 28 (zlf pc 28 (o_aload 0 29)) (zlf pc 29 (o_iload 1 30))) (znd pc 30 (zlf pc 30 (o_callv 5 30 2 2 1 33)) (zlf pc 33 (o_iret)))))
/-- RepairShop.shift()I -/
def zc_6 (pc : Nat) : zOp := znd pc 35 (znd pc 20 (znd pc 4 (znd pc 0 (zlf pc 0 (o_aload 0 1)) (znd pc 1 (zlf pc 1 (o_getf 5 1 4)) (zlf pc 4 (o_getf 4 11 7)))) (znd pc 7 (zlf pc 7 (o_ifne 20 10)) (znd pc 10 (zlf pc 10 (o_thr 2)) (zlf pc 20 (o_aload 0 21))))) (znd pc 25 (znd pc 21 (zlf pc 21 (o_getf 5 2 24)) (znd pc 24 (zlf pc 24 (o_aload 0 25)) (zlf pc 25 (o_getf 5 1 28)))) (znd pc 31 (znd pc 28 (zlf pc 28 (o_callv 1 117 2 2 0 31)) (zlf pc 31 (o_aload 0 32))) (znd pc 32 (zlf pc 32 (o_getf 5 0 35)) (zlf pc 35 (o_callv 3 139 1 6 0 38)))))) (znd pc 49 (znd pc 42 (znd pc 38 (zlf pc 38 (o_aload 0 39)) (znd pc 39 (zlf pc 39 (o_getf 5 0 42)) (zlf pc 42 (o_aload 0 43)))) (znd pc 43 (zlf pc 43 (o_getf 5 1 46)) (znd pc 46 (zlf pc 46 (o_getf 4 13 49)) (zlf pc 49 (o_callv 3 130 2 2 0 52))))) (znd pc 56 (znd pc 52 (zlf pc 52 (o_aload 0 53)) (znd pc 53 (zlf pc 53 (o_getf 5 1 56)) (zlf pc 56 (o_aload 0 57)))) (znd pc 60 (znd pc 57 (zlf pc 57 (o_getf 5 1 60)) (zlf pc 60 (o_getf 4 13 63))) (znd pc 63 (zlf pc 63 (o_callv 4 161 2 4 1 66)) (zlf pc 66 (o_iret))))))
/-- RepairShop.replan(II)I -/
def zc_7 (pc : Nat) : zOp := znd pc 53 (znd pc 18 (znd pc 5 (znd pc 1 (znd pc 0 (zlf pc 0 (o_iload 1 1)) (zlf pc 1 (o_const 0 2))) (znd pc 2 (zlf pc 2 (o_const 999 5)) (zlf pc 5 (o_call 33 3 3 1 8)))) (znd pc 11 (znd pc 8 (zlf pc 8 (o_ifeq 18 11)) (zlf pc 11 (o_iload 2 12))) (znd pc 12 (zlf pc 12 (o_call 34 1 1 1 15)) (znd pc 15 (zlf pc 15 (o_ifne 28 18)) (zlf pc 18 (o_thr 1)))))) (znd pc 35 (znd pc 29 (znd pc 28 (zlf pc 28 (o_aload 0 29)) (zlf pc 29 (o_getf 5 1 32))) (znd pc 32 (zlf pc 32 (o_getf 4 11 35)) (zlf pc 35 (o_ifne 48 38)))) (znd pc 48 (znd pc 38 (zlf pc 38 (o_thr 2)) (zlf pc 48 (o_aload 0 49))) (znd pc 49 (zlf pc 49 (o_getf 5 2 52)) (znd pc 52 (zlf pc 52 (o_aload 0 53)) (zlf pc 53 (o_getf 5 1 56))))))) (znd pc 72 (znd pc 63 (znd pc 59 (znd pc 56 (zlf pc 56 (o_callv 1 117 2 2 0 59)) (zlf pc 59 (o_aload 0 60))) (znd pc 60 (zlf pc 60 (o_getf 5 0 63)) (zlf pc 63 (o_iload 1 64)))) (znd pc 65 (znd pc 64 (zlf pc 64 (o_iload 2 65)) (zlf pc 65 (o_callv 3 135 3 4 0 68))) (znd pc 68 (zlf pc 68 (o_aload 0 69)) (znd pc 69 (zlf pc 69 (o_getf 5 0 72)) (zlf pc 72 (o_aload 0 73)))))) (znd pc 83 (znd pc 76 (znd pc 73 (zlf pc 73 (o_getf 5 1 76)) (zlf pc 76 (o_getf 4 13 79))) (znd pc 79 (zlf pc 79 (o_callv 3 130 2 2 0 82)) (znd pc 82 (zlf pc 82 (o_aload 0 83)) (zlf pc 83 (o_getf 5 1 86))))) (znd pc 87 (znd pc 86 (zlf pc 86 (o_aload 0 87)) (zlf pc 87 (o_getf 5 1 90))) (znd pc 90 (zlf pc 90 (o_getf 4 13 93)) (znd pc 93 (zlf pc 93 (o_callv 4 161 2 4 1 96)) (zlf pc 96 (o_iret)))))))
/-- RepairShop.accept()I -/
def zc_8 (pc : Nat) : zOp := znd pc 21 (znd pc 4 (znd pc 0 (zlf pc 0 (o_aload 0 1)) (znd pc 1 (zlf pc 1 (o_getf 5 1 4)) (zlf pc 4 (o_getf 4 11 7)))) (znd pc 10 (znd pc 7 (zlf pc 7 (o_ifne 20 10)) (zlf pc 10 (o_thr 2))) (znd pc 20 (zlf pc 20 (o_aload 0 21)) (zlf pc 21 (o_getf 5 2 24))))) (znd pc 28 (znd pc 24 (zlf pc 24 (o_aload 0 25)) (znd pc 25 (zlf pc 25 (o_getf 5 1 28)) (zlf pc 28 (o_callv 1 117 2 2 0 31)))) (znd pc 32 (znd pc 31 (zlf pc 31 (o_aload 0 32)) (zlf pc 32 (o_getf 5 1 35))) (znd pc 35 (zlf pc 35 (o_callv 4 168 1 5 1 38)) (zlf pc 38 (o_iret)))))
/-- RepairShop.bargain(II)I -/
def zc_9 (pc : Nat) : zOp := znd pc 76 (znd pc 41 (znd pc 11 (znd pc 4 (znd pc 0 (zlf pc 0 (o_aload 0 1)) (znd pc 1 (zlf pc 1 (o_getf 5 1 4)) (zlf pc 4 (o_iload 1 5)))) (znd pc 5 (zlf pc 5 (o_callv 4 147 2 2 1 8)) (znd pc 8 (zlf pc 8 (o_ifne 21 11)) (zlf pc 11 (o_thr 3))))) (znd pc 23 (znd pc 21 (zlf pc 21 (o_iload 2 22)) (znd pc 22 (zlf pc 22 (o_const 1 23)) (zlf pc 23 (o_const 99 25)))) (znd pc 28 (znd pc 25 (zlf pc 25 (o_call 33 3 3 1 28)) (zlf pc 28 (o_ifne 41 31))) (znd pc 31 (zlf pc 31 (o_thr 1)) (zlf pc 41 (o_aload 0 42)))))) (znd pc 52 (znd pc 48 (znd pc 42 (zlf pc 42 (o_getf 5 1 45)) (znd pc 45 (zlf pc 45 (o_getf 4 3 48)) (zlf pc 48 (o_iload 1 49)))) (znd pc 50 (znd pc 49 (zlf pc 49 (o_iald 50)) (zlf pc 50 (o_iload 2 51))) (znd pc 51 (zlf pc 51 (o_iadd 52)) (zlf pc 52 (o_const 999 55))))) (znd pc 68 (znd pc 55 (zlf pc 55 (o_cle 68 58)) (znd pc 58 (zlf pc 58 (o_thr 2)) (zlf pc 68 (o_aload 0 69)))) (znd pc 72 (znd pc 69 (zlf pc 69 (o_getf 5 2 72)) (zlf pc 72 (o_aload 0 73))) (znd pc 73 (zlf pc 73 (o_getf 5 1 76)) (zlf pc 76 (o_callv 1 117 2 2 0 79))))))) (znd pc 100 (znd pc 89 (znd pc 83 (znd pc 79 (zlf pc 79 (o_aload 0 80)) (znd pc 80 (zlf pc 80 (o_getf 5 1 83)) (zlf pc 83 (o_getf 4 3 86)))) (znd pc 87 (znd pc 86 (zlf pc 86 (o_iload 1 87)) (zlf pc 87 (o_dup2 88))) (znd pc 88 (zlf pc 88 (o_iald 89)) (zlf pc 89 (o_iload 2 90))))) (znd pc 92 (znd pc 90 (zlf pc 90 (o_iadd 91)) (znd pc 91 (zlf pc 91 (o_iast 92)) (zlf pc 92 (o_aload 0 93)))) (znd pc 96 (znd pc 93 (zlf pc 93 (o_getf 5 1 96)) (zlf pc 96 (o_dup 97))) (znd pc 97 (zlf pc 97 (o_getf 4 14 100)) (zlf pc 100 (o_aload 0 101)))))) (znd pc 111 (znd pc 107 (znd pc 101 (zlf pc 101 (o_getf 5 1 104)) (znd pc 104 (zlf pc 104 (o_getf 4 2 107)) (zlf pc 107 (o_iload 1 108)))) (znd pc 109 (znd pc 108 (zlf pc 108 (o_iald 109)) (zlf pc 109 (o_iload 2 110))) (znd pc 110 (zlf pc 110 (o_imul 111)) (zlf pc 111 (o_iadd 112))))) (znd pc 116 (znd pc 112 (zlf pc 112 (o_putf 4 14 115)) (znd pc 115 (zlf pc 115 (o_aload 0 116)) (zlf pc 116 (o_getf 5 1 119)))) (znd pc 122 (znd pc 119 (zlf pc 119 (o_getf 4 3 122)) (zlf pc 122 (o_iload 1 123))) (znd pc 123 (zlf pc 123 (o_iald 124)) (zlf pc 124 (o_iret)))))))
/-- RepairShop.overtime(II)I -/
def zc_10 (pc : Nat) : zOp := znd pc 62 (znd pc 28 (znd pc 9 (znd pc 4 (znd pc 0 (zlf pc 0 (o_aload 0 1)) (znd pc 1 (zlf pc 1 (o_getf 5 1 4)) (zlf pc 4 (o_iload 1 5)))) (znd pc 5 (zlf pc 5 (o_iload 2 6)) (znd pc 6 (zlf pc 6 (o_callv 4 148 3 3 1 9)) (zlf pc 9 (o_ifne 22 12))))) (znd pc 23 (znd pc 12 (zlf pc 12 (o_thr 3)) (znd pc 22 (zlf pc 22 (o_iload 1 23)) (zlf pc 23 (o_iload 2 24)))) (znd pc 24 (zlf pc 24 (o_call 35 2 2 1 27)) (znd pc 27 (zlf pc 27 (o_istore 3 28)) (zlf pc 28 (o_aload 0 29)))))) (znd pc 38 (znd pc 35 (znd pc 29 (zlf pc 29 (o_getf 5 1 32)) (znd pc 32 (zlf pc 32 (o_getf 4 6 35)) (zlf pc 35 (o_iload 3 36)))) (znd pc 36 (zlf pc 36 (o_iald 37)) (znd pc 37 (zlf pc 37 (o_const 1 38)) (zlf pc 38 (o_cgt 51 41))))) (znd pc 52 (znd pc 41 (zlf pc 41 (o_thr 2)) (znd pc 51 (zlf pc 51 (o_aload 0 52)) (zlf pc 52 (o_getf 5 2 55)))) (znd pc 56 (znd pc 55 (zlf pc 55 (o_aload 0 56)) (zlf pc 56 (o_getf 5 1 59))) (znd pc 59 (zlf pc 59 (o_callv 1 117 2 2 0 62)) (zlf pc 62 (o_aload 0 63))))))) (znd pc 80 (znd pc 72 (znd pc 69 (znd pc 63 (zlf pc 63 (o_getf 5 1 66)) (znd pc 66 (zlf pc 66 (o_getf 4 6 69)) (zlf pc 69 (o_iload 3 70)))) (znd pc 70 (zlf pc 70 (o_dup2 71)) (znd pc 71 (zlf pc 71 (o_iald 72)) (zlf pc 72 (o_const 1 73))))) (znd pc 75 (znd pc 73 (zlf pc 73 (o_isub 74)) (znd pc 74 (zlf pc 74 (o_iast 75)) (zlf pc 75 (o_aload 0 76)))) (znd pc 76 (zlf pc 76 (o_getf 5 1 79)) (znd pc 79 (zlf pc 79 (o_dup 80)) (zlf pc 80 (o_getf 4 14 83)))))) (znd pc 92 (znd pc 85 (znd pc 83 (zlf pc 83 (o_const 3 84)) (znd pc 84 (zlf pc 84 (o_iadd 85)) (zlf pc 85 (o_putf 4 14 88)))) (znd pc 88 (zlf pc 88 (o_aload 0 89)) (znd pc 89 (zlf pc 89 (o_getf 5 1 92)) (zlf pc 92 (o_const 0 93))))) (znd pc 97 (znd pc 93 (zlf pc 93 (o_putz 4 11 96)) (znd pc 96 (zlf pc 96 (o_aload 0 97)) (zlf pc 97 (o_getf 5 1 100)))) (znd pc 103 (znd pc 100 (zlf pc 100 (o_getf 4 6 103)) (zlf pc 103 (o_iload 3 104))) (znd pc 104 (zlf pc 104 (o_iald 105)) (zlf pc 105 (o_iret)))))))
/-- RepairShop.job(II)I -/
def zc_11 (pc : Nat) : zOp := znd pc 110 (znd pc 80 (znd pc 22 (znd pc 5 (znd pc 1 (znd pc 0 (zlf pc 0 (o_aload 0 1)) (zlf pc 1 (o_getf 5 1 4))) (znd pc 4 (zlf pc 4 (o_iload 1 5)) (zlf pc 5 (o_callv 4 147 2 2 1 8)))) (znd pc 11 (znd pc 8 (zlf pc 8 (o_ifne 21 11)) (zlf pc 11 (o_thr 3))) (znd pc 21 (zlf pc 21 (o_iload 2 22)) (zlf pc 22 (o_const 0 23))))) (znd pc 30 (znd pc 24 (znd pc 23 (zlf pc 23 (o_const 5 24)) (zlf pc 24 (o_call 33 3 3 1 27))) (znd pc 27 (zlf pc 27 (o_ifne 40 30)) (zlf pc 30 (o_thr 1)))) (znd pc 41 (znd pc 40 (zlf pc 40 (o_iload 2 41)) (zlf pc 41 (o_sw [(0, 76), (1, 86), (2, 96), (3, 106), (4, 115)] 157))) (znd pc 76 (zlf pc 76 (o_aload 0 77)) (znd pc 77 (zlf pc 77 (o_getf 5 1 80)) (zlf pc 80 (o_getf 4 2 83))))))) (znd pc 95 (znd pc 86 (znd pc 84 (znd pc 83 (zlf pc 83 (o_iload 1 84)) (zlf pc 84 (o_iald 85))) (znd pc 85 (zlf pc 85 (o_iret)) (zlf pc 86 (o_aload 0 87)))) (znd pc 90 (znd pc 87 (zlf pc 87 (o_getf 5 1 90)) (zlf pc 90 (o_getf 4 3 93))) (znd pc 93 (zlf pc 93 (o_iload 1 94)) (znd pc 94 (zlf pc 94 (o_iald 95)) (zlf pc 95 (o_iret)))))) (znd pc 103 (znd pc 97 (znd pc 96 (zlf pc 96 (o_aload 0 97)) (zlf pc 97 (o_getf 5 1 100))) (znd pc 100 (zlf pc 100 (o_getf 4 4 103)) (zlf pc 103 (o_iload 1 104)))) (znd pc 105 (znd pc 104 (zlf pc 104 (o_iald 105)) (zlf pc 105 (o_iret))) (znd pc 106 (zlf pc 106 (o_aload 0 107)) (znd pc 107 (zlf pc 107 (o_getf 5 1 110)) (zlf pc 110 (o_iload 1 111)))))))) (znd pc 146 (znd pc 129 (znd pc 116 (znd pc 114 (znd pc 111 (zlf pc 111 (o_callv 4 157 2 4 1 114)) (zlf pc 114 (o_iret))) (znd pc 115 (zlf pc 115 (o_aload 0 116)) (zlf pc 116 (o_getf 5 1 119)))) (znd pc 122 (znd pc 119 (zlf pc 119 (o_getf 4 11 122)) (zlf pc 122 (o_ifeq 155 125))) (znd pc 125 (zlf pc 125 (o_aload 0 126)) (znd pc 126 (zlf pc 126 (o_getf 5 1 129)) (zlf pc 129 (o_getf 4 4 132)))))) (znd pc 137 (znd pc 133 (znd pc 132 (zlf pc 132 (o_iload 1 133)) (zlf pc 133 (o_iald 134))) (znd pc 134 (zlf pc 134 (o_ifle 155 137)) (zlf pc 137 (o_aload 0 138)))) (znd pc 141 (znd pc 138 (zlf pc 138 (o_getf 5 1 141)) (zlf pc 141 (o_iload 1 142))) (znd pc 142 (zlf pc 142 (o_aload 0 143)) (znd pc 143 (zlf pc 143 (o_getf 5 1 146)) (zlf pc 146 (o_getf 4 13 149))))))) (znd pc 167 (znd pc 156 (znd pc 152 (znd pc 149 (zlf pc 149 (o_callv 4 159 3 4 1 152)) (zlf pc 152 (o_goto 156))) (znd pc 155 (zlf pc 155 (o_const (-1) 156)) (zlf pc 156 (o_iret)))) (znd pc 158 (znd pc 157 (zlf pc 157 (o_aload 0 158)) (zlf pc 158 (o_getf 5 1 161))) (znd pc 161 (zlf pc 161 (o_getf 4 11 164)) (znd pc 164 (zlf pc 164 (o_ifeq 185 167)) (zlf pc 167 (o_aload 0 168)))))) (znd pc 173 (znd pc 171 (znd pc 168 (zlf pc 168 (o_getf 5 1 171)) (zlf pc 171 (o_iload 1 172))) (znd pc 172 (zlf pc 172 (o_aload 0 173)) (zlf pc 173 (o_getf 5 1 176)))) (znd pc 179 (znd pc 176 (zlf pc 176 (o_getf 4 13 179)) (zlf pc 179 (o_callv 4 160 3 3 1 182))) (znd pc 182 (zlf pc 182 (o_goto 186)) (znd pc 185 (zlf pc 185 (o_const (-1) 186)) (zlf pc 186 (o_iret))))))))
/-- RepairShop.operation(III)I -/
def zc_12 (pc : Nat) : zOp := znd pc 80 (znd pc 48 (znd pc 23 (znd pc 5 (znd pc 1 (znd pc 0 (zlf pc 0 (o_aload 0 1)) (zlf pc 1 (o_getf 5 1 4))) (znd pc 4 (zlf pc 4 (o_iload 1 5)) (zlf pc 5 (o_iload 2 6)))) (znd pc 9 (znd pc 6 (zlf pc 6 (o_callv 4 148 3 3 1 9)) (zlf pc 9 (o_ifne 22 12))) (znd pc 12 (zlf pc 12 (o_thr 3)) (znd pc 22 (zlf pc 22 (o_iload 3 23)) (zlf pc 23 (o_const 0 24)))))) (znd pc 31 (znd pc 25 (znd pc 24 (zlf pc 24 (o_const 4 25)) (zlf pc 25 (o_call 33 3 3 1 28))) (znd pc 28 (zlf pc 28 (o_ifne 41 31)) (zlf pc 31 (o_thr 1)))) (znd pc 42 (znd pc 41 (zlf pc 41 (o_iload 1 42)) (zlf pc 42 (o_iload 2 43))) (znd pc 43 (zlf pc 43 (o_call 35 2 2 1 46)) (znd pc 46 (zlf pc 46 (o_istore 4 48)) (zlf pc 48 (o_iload 3 49))))))) (znd pc 64 (znd pc 56 (znd pc 52 (znd pc 49 (zlf pc 49 (o_ifne 63 52)) (zlf pc 52 (o_aload 0 53))) (znd pc 53 (zlf pc 53 (o_getf 5 1 56)) (zlf pc 56 (o_getf 4 5 59)))) (znd pc 61 (znd pc 59 (zlf pc 59 (o_iload 4 61)) (zlf pc 61 (o_iald 62))) (znd pc 62 (zlf pc 62 (o_iret)) (znd pc 63 (zlf pc 63 (o_iload 3 64)) (zlf pc 64 (o_const 1 65)))))) (znd pc 72 (znd pc 68 (znd pc 65 (zlf pc 65 (o_cne 79 68)) (zlf pc 68 (o_aload 0 69))) (znd pc 69 (zlf pc 69 (o_getf 5 1 72)) (zlf pc 72 (o_getf 4 6 75)))) (znd pc 77 (znd pc 75 (zlf pc 75 (o_iload 4 77)) (zlf pc 77 (o_iald 78))) (znd pc 78 (zlf pc 78 (o_iret)) (znd pc 79 (zlf pc 79 (o_aload 0 80)) (zlf pc 80 (o_getf 5 1 83)))))))) (znd pc 113 (znd pc 97 (znd pc 90 (znd pc 86 (znd pc 83 (zlf pc 83 (o_getf 4 11 86)) (zlf pc 86 (o_ifne 91 89))) (znd pc 89 (zlf pc 89 (o_const (-1) 90)) (zlf pc 90 (o_iret)))) (znd pc 92 (znd pc 91 (zlf pc 91 (o_iload 3 92)) (zlf pc 92 (o_const 2 93))) (znd pc 93 (zlf pc 93 (o_cne 107 96)) (znd pc 96 (zlf pc 96 (o_aload 0 97)) (zlf pc 97 (o_getf 5 1 100)))))) (znd pc 106 (znd pc 103 (znd pc 100 (zlf pc 100 (o_getf 4 12 103)) (zlf pc 103 (o_iload 4 105))) (znd pc 105 (zlf pc 105 (o_iald 106)) (zlf pc 106 (o_iret)))) (znd pc 108 (znd pc 107 (zlf pc 107 (o_iload 3 108)) (zlf pc 108 (o_const 3 109))) (znd pc 109 (zlf pc 109 (o_cne 123 112)) (znd pc 112 (zlf pc 112 (o_aload 0 113)) (zlf pc 113 (o_getf 5 1 116))))))) (znd pc 130 (znd pc 122 (znd pc 119 (znd pc 116 (zlf pc 116 (o_getf 4 13 119)) (zlf pc 119 (o_iload 4 121))) (znd pc 121 (zlf pc 121 (o_iald 122)) (zlf pc 122 (o_iret)))) (znd pc 124 (znd pc 123 (zlf pc 123 (o_aload 0 124)) (zlf pc 124 (o_getf 5 1 127))) (znd pc 127 (zlf pc 127 (o_iload 4 129)) (znd pc 129 (zlf pc 129 (o_aload 0 130)) (zlf pc 130 (o_getf 5 1 133)))))) (znd pc 139 (znd pc 136 (znd pc 133 (zlf pc 133 (o_getf 4 13 136)) (zlf pc 136 (o_iload 4 138))) (znd pc 138 (zlf pc 138 (o_iald 139)) (zlf pc 139 (o_callv 4 164 3 4 1 142)))) (znd pc 145 (znd pc 142 (zlf pc 142 (o_ifeq 149 145)) (zlf pc 145 (o_const 1 146))) (znd pc 146 (zlf pc 146 (o_goto 150)) (znd pc 149 (zlf pc 149 (o_const 0 150)) (zlf pc 150 (o_iret))))))))
/-- RepairShop.breakdown(II)I -/
def zc_13 (pc : Nat) : zOp := znd pc 48 (znd pc 22 (znd pc 5 (znd pc 1 (znd pc 0 (zlf pc 0 (o_aload 0 1)) (zlf pc 1 (o_getf 5 1 4))) (znd pc 4 (zlf pc 4 (o_iload 1 5)) (zlf pc 5 (o_callv 4 149 2 2 1 8)))) (znd pc 11 (znd pc 8 (zlf pc 8 (o_ifne 21 11)) (zlf pc 11 (o_thr 3))) (znd pc 21 (zlf pc 21 (o_iload 2 22)) (zlf pc 22 (o_const 0 23))))) (znd pc 30 (znd pc 24 (znd pc 23 (zlf pc 23 (o_const 2 24)) (zlf pc 24 (o_call 33 3 3 1 27))) (znd pc 27 (zlf pc 27 (o_ifne 40 30)) (zlf pc 30 (o_thr 1)))) (znd pc 41 (znd pc 40 (zlf pc 40 (o_iload 2 41)) (zlf pc 41 (o_ifne 54 44))) (znd pc 44 (zlf pc 44 (o_aload 0 45)) (znd pc 45 (zlf pc 45 (o_getf 5 1 48)) (zlf pc 48 (o_getf 4 8 51))))))) (znd pc 63 (znd pc 54 (znd pc 52 (znd pc 51 (zlf pc 51 (o_iload 1 52)) (zlf pc 52 (o_iald 53))) (znd pc 53 (zlf pc 53 (o_iret)) (zlf pc 54 (o_iload 2 55)))) (znd pc 56 (znd pc 55 (zlf pc 55 (o_const 1 56)) (zlf pc 56 (o_cne 69 59))) (znd pc 59 (zlf pc 59 (o_aload 0 60)) (znd pc 60 (zlf pc 60 (o_getf 5 1 63)) (zlf pc 63 (o_getf 4 9 66)))))) (znd pc 69 (znd pc 67 (znd pc 66 (zlf pc 66 (o_iload 1 67)) (zlf pc 67 (o_iald 68))) (znd pc 68 (zlf pc 68 (o_iret)) (zlf pc 69 (o_aload 0 70)))) (znd pc 73 (znd pc 70 (zlf pc 70 (o_getf 5 1 73)) (zlf pc 73 (o_getf 4 10 76))) (znd pc 76 (zlf pc 76 (o_iload 1 77)) (znd pc 77 (zlf pc 77 (o_iald 78)) (zlf pc 78 (o_iret)))))))
/-- RepairShop.value(I)I -/
def zc_14 (pc : Nat) : zOp := znd pc 88 (znd pc 64 (znd pc 7 (znd pc 1 (znd pc 0 (zlf pc 0 (o_iload 1 1)) (zlf pc 1 (o_const 0 2))) (znd pc 2 (zlf pc 2 (o_const 9 4)) (znd pc 4 (zlf pc 4 (o_call 33 3 3 1 7)) (zlf pc 7 (o_ifne 20 10))))) (znd pc 21 (znd pc 10 (zlf pc 10 (o_thr 1)) (znd pc 20 (zlf pc 20 (o_iload 1 21)) (zlf pc 21 (o_sw [(0, 60), (1, 68), (2, 76), (3, 84), (4, 92), (5, 108)] 116)))) (znd pc 60 (zlf pc 60 (o_aload 0 61)) (znd pc 61 (zlf pc 61 (o_getf 5 1 64)) (zlf pc 64 (o_getf 4 0 67)))))) (znd pc 76 (znd pc 69 (znd pc 67 (zlf pc 67 (o_iret)) (znd pc 68 (zlf pc 68 (o_aload 0 69)) (zlf pc 69 (o_getf 5 1 72)))) (znd pc 72 (zlf pc 72 (o_getf 4 1 75)) (znd pc 75 (zlf pc 75 (o_iret)) (zlf pc 76 (o_aload 0 77))))) (znd pc 83 (znd pc 77 (zlf pc 77 (o_getf 5 1 80)) (znd pc 80 (zlf pc 80 (o_callv 4 156 1 3 1 83)) (zlf pc 83 (o_iret)))) (znd pc 84 (zlf pc 84 (o_aload 0 85)) (znd pc 85 (zlf pc 85 (o_getf 5 1 88)) (zlf pc 88 (o_getf 4 7 91))))))) (znd pc 109 (znd pc 99 (znd pc 92 (znd pc 91 (zlf pc 91 (o_iret)) (zlf pc 92 (o_aload 0 93))) (znd pc 93 (zlf pc 93 (o_getf 5 1 96)) (znd pc 96 (zlf pc 96 (o_getf 4 11 99)) (zlf pc 99 (o_ifeq 106 102))))) (znd pc 106 (znd pc 102 (zlf pc 102 (o_const 1 103)) (znd pc 103 (zlf pc 103 (o_goto 107)) (zlf pc 106 (o_const 0 107)))) (znd pc 107 (zlf pc 107 (o_iret)) (znd pc 108 (zlf pc 108 (o_aload 0 109)) (zlf pc 109 (o_getf 5 1 112)))))) (znd pc 123 (znd pc 116 (znd pc 112 (zlf pc 112 (o_getf 4 14 115)) (znd pc 115 (zlf pc 115 (o_iret)) (zlf pc 116 (o_aload 0 117)))) (znd pc 117 (zlf pc 117 (o_getf 5 1 120)) (znd pc 120 (zlf pc 120 (o_getf 4 11 123)) (zlf pc 123 (o_ifeq 134 126))))) (znd pc 128 (znd pc 126 (zlf pc 126 (o_aload 0 127)) (znd pc 127 (zlf pc 127 (o_iload 1 128)) (zlf pc 128 (o_callv 5 29 2 2 1 131)))) (znd pc 131 (zlf pc 131 (o_goto 135)) (znd pc 134 (zlf pc 134 (o_const (-1) 135)) (zlf pc 135 (o_iret)))))))
/-- RepairShop.meeting()I -/
def zc_15 (pc : Nat) : zOp := znd pc 10 (znd pc 1 (znd pc 0 (zlf pc 0 (o_aload 0 1)) (zlf pc 1 (o_getf 5 1 4))) (znd pc 4 (zlf pc 4 (o_getf 4 11 7)) (znd pc 7 (zlf pc 7 (o_ifeq 20 10)) (zlf pc 10 (o_aload 0 11))))) (znd pc 14 (znd pc 11 (zlf pc 11 (o_getf 5 1 14)) (zlf pc 14 (o_callv 4 167 1 5 1 17))) (znd pc 17 (zlf pc 17 (o_goto 21)) (znd pc 20 (zlf pc 20 (o_const (-1) 21)) (zlf pc 21 (o_iret)))))
/-- RepairShop.onMachine(II)I -/
def zc_16 (pc : Nat) : zOp := znd pc 26 (znd pc 8 (znd pc 1 (znd pc 0 (zlf pc 0 (o_aload 0 1)) (zlf pc 1 (o_getf 5 1 4))) (znd pc 4 (zlf pc 4 (o_iload 1 5)) (znd pc 5 (zlf pc 5 (o_callv 4 146 2 2 1 8)) (zlf pc 8 (o_ifeq 15 11))))) (znd pc 12 (znd pc 11 (zlf pc 11 (o_iload 2 12)) (zlf pc 12 (o_ifge 25 15))) (znd pc 15 (zlf pc 15 (o_thr 3)) (znd pc 25 (zlf pc 25 (o_aload 0 26)) (zlf pc 26 (o_getf 5 1 29)))))) (znd pc 39 (znd pc 32 (znd pc 29 (zlf pc 29 (o_getf 4 11 32)) (zlf pc 32 (o_ifeq 47 35))) (znd pc 35 (zlf pc 35 (o_aload 0 36)) (znd pc 36 (zlf pc 36 (o_getf 5 1 39)) (zlf pc 39 (o_iload 1 40))))) (znd pc 41 (znd pc 40 (zlf pc 40 (o_iload 2 41)) (zlf pc 41 (o_callv 4 169 3 6 1 44))) (znd pc 44 (zlf pc 44 (o_goto 48)) (znd pc 47 (zlf pc 47 (o_const (-1) 48)) (zlf pc 48 (o_iret))))))
/-- RepairShop.latenessBy(I)I -/
def zc_17 (pc : Nat) : zOp := znd pc 7 (znd pc 1 (znd pc 0 (zlf pc 0 (o_iload 1 1)) (zlf pc 1 (o_call 34 1 1 1 4))) (znd pc 4 (zlf pc 4 (o_ifne 17 7)) (zlf pc 7 (o_thr 1)))) (znd pc 18 (znd pc 17 (zlf pc 17 (o_aload 0 18)) (zlf pc 18 (o_getf 5 0 21))) (znd pc 21 (zlf pc 21 (o_iload 1 22)) (znd pc 22 (zlf pc 22 (o_callv 3 132 2 2 1 25)) (zlf pc 25 (o_iret)))))
/-- RepairShop.bestRule()I -/
def zc_18 (pc : Nat) : zOp := znd pc 19 (znd pc 10 (znd pc 2 (znd pc 0 (zlf pc 0 (o_const 0 1)) (znd pc 1 (zlf pc 1 (o_istore 1 2)) (zlf pc 2 (o_aload 0 3)))) (znd pc 6 (znd pc 3 (zlf pc 3 (o_getf 5 0 6)) (zlf pc 6 (o_const 0 7))) (znd pc 7 (zlf pc 7 (o_callv 3 132 2 2 1 10)) (zlf pc 10 (o_istore 2 11))))) (znd pc 13 (znd pc 11 (zlf pc 11 (o_const 1 12)) (znd pc 12 (zlf pc 12 (o_istore 3 13)) (zlf pc 13 (o_iload 3 14)))) (znd pc 15 (znd pc 14 (zlf pc 14 (o_const 3 15)) (zlf pc 15 (o_cgt 45 18))) (znd pc 18 (zlf pc 18 (o_aload 0 19)) (zlf pc 19 (o_getf 5 0 22)))))) (znd pc 34 (znd pc 26 (znd pc 22 (zlf pc 22 (o_iload 3 23)) (znd pc 23 (zlf pc 23 (o_callv 3 132 2 2 1 26)) (zlf pc 26 (o_istore 4 28)))) (znd pc 30 (znd pc 28 (zlf pc 28 (o_iload 4 30)) (zlf pc 30 (o_iload 2 31))) (znd pc 31 (zlf pc 31 (o_cge 39 34)) (zlf pc 34 (o_iload 3 35))))) (znd pc 38 (znd pc 35 (zlf pc 35 (o_istore 1 36)) (znd pc 36 (zlf pc 36 (o_iload 4 38)) (zlf pc 38 (o_istore 2 39)))) (znd pc 42 (znd pc 39 (zlf pc 39 (o_iinc 3 1 42)) (zlf pc 42 (o_goto 13))) (znd pc 45 (zlf pc 45 (o_iload 1 46)) (zlf pc 46 (o_iret))))))
/-- RepairShop.latenessShifted()I -/
def zc_19 (pc : Nat) : zOp := znd pc 11 (znd pc 4 (znd pc 0 (zlf pc 0 (o_aload 0 1)) (znd pc 1 (zlf pc 1 (o_getf 5 1 4)) (zlf pc 4 (o_getf 4 11 7)))) (znd pc 7 (zlf pc 7 (o_ifne 12 10)) (znd pc 10 (zlf pc 10 (o_const (-1) 11)) (zlf pc 11 (o_iret))))) (znd pc 16 (znd pc 12 (zlf pc 12 (o_aload 0 13)) (znd pc 13 (zlf pc 13 (o_getf 5 0 16)) (zlf pc 16 (o_callv 3 139 1 6 0 19)))) (znd pc 20 (znd pc 19 (zlf pc 19 (o_aload 0 20)) (zlf pc 20 (o_getf 5 0 23))) (znd pc 23 (zlf pc 23 (o_callv 3 131 1 1 1 26)) (zlf pc 26 (o_iret)))))
/-- RepairShop.bestReplan(I)I -/
def zc_20 (pc : Nat) : zOp := znd pc 50 (znd pc 32 (znd pc 11 (znd pc 2 (znd pc 0 (zlf pc 0 (o_iload 1 1)) (znd pc 1 (zlf pc 1 (o_const 0 2)) (zlf pc 2 (o_const 999 5)))) (znd pc 5 (zlf pc 5 (o_call 33 3 3 1 8)) (znd pc 8 (zlf pc 8 (o_ifne 21 11)) (zlf pc 11 (o_thr 1))))) (znd pc 25 (znd pc 21 (zlf pc 21 (o_aload 0 22)) (znd pc 22 (zlf pc 22 (o_getf 5 1 25)) (zlf pc 25 (o_getf 4 11 28)))) (znd pc 28 (zlf pc 28 (o_ifne 33 31)) (znd pc 31 (zlf pc 31 (o_const (-1) 32)) (zlf pc 32 (o_iret)))))) (znd pc 40 (znd pc 35 (znd pc 33 (zlf pc 33 (o_const 0 34)) (znd pc 34 (zlf pc 34 (o_istore 2 35)) (zlf pc 35 (o_aload 0 36)))) (znd pc 36 (zlf pc 36 (o_getf 5 0 39)) (znd pc 39 (zlf pc 39 (o_iload 1 40)) (zlf pc 40 (o_const 0 41))))) (znd pc 45 (znd pc 41 (zlf pc 41 (o_callv 3 133 3 3 1 44)) (znd pc 44 (zlf pc 44 (o_istore 3 45)) (zlf pc 45 (o_const 1 46)))) (znd pc 46 (zlf pc 46 (o_istore 4 48)) (znd pc 48 (zlf pc 48 (o_iload 4 50)) (zlf pc 50 (o_const 3 51))))))) (znd pc 74 (znd pc 61 (znd pc 55 (znd pc 51 (zlf pc 51 (o_cgt 84 54)) (znd pc 54 (zlf pc 54 (o_aload 0 55)) (zlf pc 55 (o_getf 5 0 58)))) (znd pc 58 (zlf pc 58 (o_iload 1 59)) (znd pc 59 (zlf pc 59 (o_iload 4 61)) (zlf pc 61 (o_callv 3 133 3 3 1 64))))) (znd pc 68 (znd pc 64 (zlf pc 64 (o_istore 5 66)) (znd pc 66 (zlf pc 66 (o_iload 5 68)) (zlf pc 68 (o_iload 3 69)))) (znd pc 69 (zlf pc 69 (o_cge 78 72)) (znd pc 72 (zlf pc 72 (o_iload 4 74)) (zlf pc 74 (o_istore 2 75)))))) (znd pc 87 (znd pc 78 (znd pc 75 (zlf pc 75 (o_iload 5 77)) (znd pc 77 (zlf pc 77 (o_istore 3 78)) (zlf pc 78 (o_iinc 4 1 81)))) (znd pc 81 (zlf pc 81 (o_goto 48)) (znd pc 84 (zlf pc 84 (o_const 1000000 87)) (zlf pc 87 (o_iload 2 88))))) (znd pc 90 (znd pc 88 (zlf pc 88 (o_imul 89)) (znd pc 89 (zlf pc 89 (o_iload 3 90)) (zlf pc 90 (o_const 999999 93)))) (znd pc 93 (zlf pc 93 (o_min 96)) (znd pc 96 (zlf pc 96 (o_iadd 97)) (zlf pc 97 (o_iret)))))))
/-- RepairShop.bestOvertime(I)I -/
def zc_21 (pc : Nat) : zOp := znd pc 55 (znd pc 28 (znd pc 18 (znd pc 4 (znd pc 0 (zlf pc 0 (o_iload 1 1)) (znd pc 1 (zlf pc 1 (o_call 34 1 1 1 4)) (zlf pc 4 (o_ifne 17 7)))) (znd pc 7 (zlf pc 7 (o_thr 1)) (znd pc 17 (zlf pc 17 (o_const (-1) 18)) (zlf pc 18 (o_istore 2 19))))) (znd pc 23 (znd pc 19 (zlf pc 19 (o_aload 0 20)) (znd pc 20 (zlf pc 20 (o_getf 5 0 23)) (zlf pc 23 (o_iload 1 24)))) (znd pc 24 (zlf pc 24 (o_callv 3 132 2 2 1 27)) (znd pc 27 (zlf pc 27 (o_istore 3 28)) (zlf pc 28 (o_const 0 29)))))) (znd pc 40 (znd pc 33 (znd pc 29 (zlf pc 29 (o_istore 4 31)) (znd pc 31 (zlf pc 31 (o_iload 4 33)) (zlf pc 33 (o_aload 0 34)))) (znd pc 34 (zlf pc 34 (o_getf 5 1 37)) (znd pc 37 (zlf pc 37 (o_getf 4 1 40)) (zlf pc 40 (o_cge 105 43))))) (znd pc 46 (znd pc 43 (zlf pc 43 (o_const 0 44)) (znd pc 44 (zlf pc 44 (o_istore 5 46)) (zlf pc 46 (o_iload 5 48)))) (znd pc 49 (znd pc 48 (zlf pc 48 (o_aload 0 49)) (zlf pc 49 (o_getf 5 1 52))) (znd pc 52 (zlf pc 52 (o_getf 4 4 55)) (zlf pc 55 (o_iload 4 57))))))) (znd pc 81 (znd pc 66 (znd pc 61 (znd pc 57 (zlf pc 57 (o_iald 58)) (znd pc 58 (zlf pc 58 (o_cge 99 61)) (zlf pc 61 (o_aload 0 62)))) (znd pc 62 (zlf pc 62 (o_iload 4 64)) (znd pc 64 (zlf pc 64 (o_iload 5 66)) (zlf pc 66 (o_call 35 2 2 1 69))))) (znd pc 73 (znd pc 69 (zlf pc 69 (o_iload 1 70)) (znd pc 70 (zlf pc 70 (o_callv 5 31 3 4 1 73)) (zlf pc 73 (o_istore 6 75)))) (znd pc 77 (znd pc 75 (zlf pc 75 (o_iload 6 77)) (zlf pc 77 (o_iload 3 78))) (znd pc 78 (zlf pc 78 (o_cge 93 81)) (zlf pc 81 (o_const 10 83)))))) (znd pc 90 (znd pc 86 (znd pc 83 (zlf pc 83 (o_iload 4 85)) (znd pc 85 (zlf pc 85 (o_imul 86)) (zlf pc 86 (o_iload 5 88)))) (znd pc 88 (zlf pc 88 (o_iadd 89)) (znd pc 89 (zlf pc 89 (o_istore 2 90)) (zlf pc 90 (o_iload 6 92))))) (znd pc 96 (znd pc 92 (zlf pc 92 (o_istore 3 93)) (znd pc 93 (zlf pc 93 (o_iinc 5 1 96)) (zlf pc 96 (o_goto 46)))) (znd pc 102 (znd pc 99 (zlf pc 99 (o_iinc 4 1 102)) (zlf pc 102 (o_goto 31))) (znd pc 105 (zlf pc 105 (o_iload 2 106)) (zlf pc 106 (o_iret)))))))
/-- RepairShop.append(I)I -/
def zc_22 (pc : Nat) : zOp := znd pc 48 (znd pc 21 (znd pc 2 (znd pc 0 (zlf pc 0 (o_iload 1 1)) (znd pc 1 (zlf pc 1 (o_const 0 2)) (zlf pc 2 (o_const 127 4)))) (znd pc 7 (znd pc 4 (zlf pc 4 (o_call 33 3 3 1 7)) (zlf pc 7 (o_ifne 21 10))) (znd pc 10 (zlf pc 10 (o_thr 1)) (zlf pc 21 (o_aload 0 22))))) (znd pc 30 (znd pc 25 (znd pc 22 (zlf pc 22 (o_getf 5 3 25)) (zlf pc 25 (o_getf 2 1 28))) (znd pc 28 (zlf pc 28 (o_const 100 30)) (zlf pc 30 (o_clt 44 33)))) (znd pc 44 (znd pc 33 (zlf pc 33 (o_thr 2)) (zlf pc 44 (o_aload 0 45))) (znd pc 45 (zlf pc 45 (o_getf 5 3 48)) (zlf pc 48 (o_getf 2 0 51)))))) (znd pc 64 (znd pc 58 (znd pc 52 (znd pc 51 (zlf pc 51 (o_aload 0 52)) (zlf pc 52 (o_getf 5 3 55))) (znd pc 55 (zlf pc 55 (o_getf 2 1 58)) (zlf pc 58 (o_iload 1 59)))) (znd pc 60 (znd pc 59 (zlf pc 59 (o_iast 60)) (zlf pc 60 (o_aload 0 61))) (znd pc 61 (zlf pc 61 (o_getf 5 3 64)) (zlf pc 64 (o_dup 65))))) (znd pc 70 (znd pc 68 (znd pc 65 (zlf pc 65 (o_getf 2 1 68)) (zlf pc 68 (o_const 1 69))) (znd pc 69 (zlf pc 69 (o_iadd 70)) (zlf pc 70 (o_putf 2 1 73)))) (znd pc 74 (znd pc 73 (zlf pc 73 (o_aload 0 74)) (zlf pc 74 (o_getf 5 3 77))) (znd pc 77 (zlf pc 77 (o_getf 2 1 80)) (zlf pc 80 (o_iret))))))
/-- RepairShop.clearText()I -/
def zc_23 (pc : Nat) : zOp := znd pc 8 (znd pc 1 (znd pc 0 (zlf pc 0 (o_aload 0 1)) (zlf pc 1 (o_getf 5 3 4))) (znd pc 4 (zlf pc 4 (o_getf 2 1 7)) (znd pc 7 (zlf pc 7 (o_istore 1 8)) (zlf pc 8 (o_aload 0 9))))) (znd pc 12 (znd pc 9 (zlf pc 9 (o_getf 5 3 12)) (zlf pc 12 (o_const 0 13))) (znd pc 13 (zlf pc 13 (o_putf 2 1 16)) (znd pc 16 (zlf pc 16 (o_iload 1 17)) (zlf pc 17 (o_iret)))))
/-- RepairShop.carryOut()I -/
def zc_24 (pc : Nat) : zOp := znd pc 36 (znd pc 16 (znd pc 8 (znd pc 1 (znd pc 0 (zlf pc 0 (o_aload 0 1)) (zlf pc 1 (o_getf 5 3 4))) (znd pc 4 (zlf pc 4 (o_callv 2 120 1 2 1 7)) (znd pc 7 (zlf pc 7 (o_istore 1 8)) (zlf pc 8 (o_iload 1 9))))) (znd pc 10 (znd pc 9 (zlf pc 9 (o_const (-1) 10)) (zlf pc 10 (o_ceq 18 13))) (znd pc 13 (zlf pc 13 (o_const (-10) 15)) (znd pc 15 (zlf pc 15 (o_iload 1 16)) (zlf pc 16 (o_isub 17)))))) (znd pc 23 (znd pc 18 (znd pc 17 (zlf pc 17 (o_iret)) (zlf pc 18 (o_aload 0 19))) (znd pc 19 (zlf pc 19 (o_getf 5 2 22)) (znd pc 22 (zlf pc 22 (o_aload 0 23)) (zlf pc 23 (o_getf 5 1 26))))) (znd pc 29 (znd pc 26 (zlf pc 26 (o_callv 1 117 2 2 0 29)) (zlf pc 29 (o_aload 0 30))) (znd pc 30 (zlf pc 30 (o_getf 5 3 33)) (znd pc 33 (zlf pc 33 (o_callv 2 119 1 1 0 36)) (zlf pc 36 (o_const 0 37))))))) (znd pc 53 (znd pc 41 (znd pc 38 (znd pc 37 (zlf pc 37 (o_istore 2 38)) (zlf pc 38 (o_const 0 39))) (znd pc 39 (zlf pc 39 (o_istore 3 40)) (znd pc 40 (zlf pc 40 (o_iload 3 41)) (zlf pc 41 (o_const 100 43))))) (znd pc 46 (znd pc 43 (zlf pc 43 (o_cge 74 46)) (zlf pc 46 (o_aload 0 47))) (znd pc 47 (zlf pc 47 (o_getf 5 3 50)) (znd pc 50 (zlf pc 50 (o_callv 2 121 1 1 1 53)) (zlf pc 53 (o_ifeq 63 56)))))) (znd pc 64 (znd pc 57 (znd pc 56 (zlf pc 56 (o_aload 0 57)) (zlf pc 57 (o_callv 5 32 1 4 1 60))) (znd pc 60 (zlf pc 60 (o_ifne 65 63)) (znd pc 63 (zlf pc 63 (o_iload 2 64)) (zlf pc 64 (o_iret))))) (znd pc 68 (znd pc 65 (zlf pc 65 (o_iinc 2 1 68)) (zlf pc 68 (o_iinc 3 1 71))) (znd pc 71 (zlf pc 71 (o_goto 40)) (znd pc 74 (zlf pc 74 (o_iload 2 75)) (zlf pc 75 (o_iret)))))))
/-- RepairShop.undo()I -/
def zc_25 (pc : Nat) : zOp := znd pc 22 (znd pc 4 (znd pc 0 (zlf pc 0 (o_aload 0 1)) (znd pc 1 (zlf pc 1 (o_getf 5 2 4)) (zlf pc 4 (o_getf 1 2 7)))) (znd pc 10 (znd pc 7 (zlf pc 7 (o_ifne 21 10)) (zlf pc 10 (o_thr 2))) (znd pc 21 (zlf pc 21 (o_aload 0 22)) (zlf pc 22 (o_getf 5 2 25))))) (znd pc 29 (znd pc 25 (zlf pc 25 (o_aload 0 26)) (znd pc 26 (zlf pc 26 (o_getf 5 1 29)) (zlf pc 29 (o_callv 1 118 2 2 0 32)))) (znd pc 33 (znd pc 32 (zlf pc 32 (o_aload 0 33)) (zlf pc 33 (o_getf 5 2 36))) (znd pc 36 (zlf pc 36 (o_getf 1 2 39)) (zlf pc 39 (o_iret)))))
/-- RepairShop.digest()J -/
def zc_26 (pc : Nat) : zOp := znd pc 66 (znd pc 32 (znd pc 16 (znd pc 7 (znd pc 3 (znd pc 0 (zlf pc 0 (o_lconst 3719 3)) (zlf pc 3 (o_aload 0 4))) (znd pc 4 (zlf pc 4 (o_getf 5 3 7)) (zlf pc 7 (o_getf 2 1 10)))) (znd pc 13 (znd pc 10 (zlf pc 10 (o_call 28 2 3 2 13)) (zlf pc 13 (o_lstore 1 14))) (znd pc 14 (zlf pc 14 (o_const 0 15)) (znd pc 15 (zlf pc 15 (o_istore 3 16)) (zlf pc 16 (o_iload 3 17)))))) (znd pc 23 (znd pc 19 (znd pc 17 (zlf pc 17 (o_const 9 19)) (zlf pc 19 (o_cgt 38 22))) (znd pc 22 (zlf pc 22 (o_lload 1 23)) (zlf pc 23 (o_aload 0 24)))) (znd pc 25 (znd pc 24 (zlf pc 24 (o_iload 3 25)) (zlf pc 25 (o_callv 5 14 2 2 1 28))) (znd pc 28 (zlf pc 28 (o_call 28 2 3 2 31)) (znd pc 31 (zlf pc 31 (o_lstore 1 32)) (zlf pc 32 (o_iinc 3 1 35))))))) (znd pc 51 (znd pc 40 (znd pc 38 (znd pc 35 (zlf pc 35 (o_goto 16)) (zlf pc 38 (o_const 0 39))) (znd pc 39 (zlf pc 39 (o_istore 3 40)) (zlf pc 40 (o_iload 3 41)))) (znd pc 42 (znd pc 41 (zlf pc 41 (o_aload 0 42)) (zlf pc 42 (o_getf 5 1 45))) (znd pc 45 (zlf pc 45 (o_getf 4 1 48)) (znd pc 48 (zlf pc 48 (o_cge 64 51)) (zlf pc 51 (o_aload 0 52)))))) (znd pc 57 (znd pc 53 (znd pc 52 (zlf pc 52 (o_lload 1 53)) (zlf pc 53 (o_iload 3 54))) (znd pc 54 (zlf pc 54 (o_callv 5 27 3 8 2 57)) (zlf pc 57 (o_lstore 1 58)))) (znd pc 61 (znd pc 58 (zlf pc 58 (o_iinc 3 1 61)) (zlf pc 61 (o_goto 40))) (znd pc 64 (zlf pc 64 (o_const 0 65)) (znd pc 65 (zlf pc 65 (o_istore 3 66)) (zlf pc 66 (o_iload 3 67)))))))) (znd pc 101 (znd pc 83 (znd pc 74 (znd pc 68 (znd pc 67 (zlf pc 67 (o_aload 0 68)) (zlf pc 68 (o_getf 5 1 71))) (znd pc 71 (zlf pc 71 (o_getf 4 7 74)) (zlf pc 74 (o_cge 110 77)))) (znd pc 78 (znd pc 77 (zlf pc 77 (o_const 0 78)) (zlf pc 78 (o_istore 4 80))) (znd pc 80 (zlf pc 80 (o_iload 4 82)) (znd pc 82 (zlf pc 82 (o_const 2 83)) (zlf pc 83 (o_cgt 104 86)))))) (znd pc 89 (znd pc 87 (znd pc 86 (zlf pc 86 (o_lload 1 87)) (zlf pc 87 (o_aload 0 88))) (znd pc 88 (zlf pc 88 (o_iload 3 89)) (zlf pc 89 (o_iload 4 91)))) (znd pc 94 (znd pc 91 (zlf pc 91 (o_callv 5 13 3 3 1 94)) (zlf pc 94 (o_call 28 2 3 2 97))) (znd pc 97 (zlf pc 97 (o_lstore 1 98)) (znd pc 98 (zlf pc 98 (o_iinc 4 1 101)) (zlf pc 101 (o_goto 80))))))) (znd pc 120 (znd pc 111 (znd pc 107 (znd pc 104 (zlf pc 104 (o_iinc 3 1 107)) (zlf pc 107 (o_goto 66))) (znd pc 110 (zlf pc 110 (o_lload 1 111)) (zlf pc 111 (o_aload 0 112)))) (znd pc 115 (znd pc 112 (zlf pc 112 (o_callv 5 15 1 1 1 115)) (zlf pc 115 (o_call 28 2 3 2 118))) (znd pc 118 (zlf pc 118 (o_lstore 1 119)) (znd pc 119 (zlf pc 119 (o_lload 1 120)) (zlf pc 120 (o_aload 0 121)))))) (znd pc 128 (znd pc 124 (znd pc 121 (zlf pc 121 (o_callv 5 19 1 1 1 124)) (zlf pc 124 (o_call 28 2 3 2 127))) (znd pc 127 (zlf pc 127 (o_lstore 1 128)) (zlf pc 128 (o_lload 1 129)))) (znd pc 130 (znd pc 129 (zlf pc 129 (o_aload 0 130)) (zlf pc 130 (o_getf 5 2 133))) (znd pc 133 (zlf pc 133 (o_getf 1 2 136)) (znd pc 136 (zlf pc 136 (o_call 28 2 3 2 139)) (zlf pc 139 (o_lret))))))))
/-- RepairShop.joinedJob(JI)J -/
def zc_27 (pc : Nat) : zOp := znd pc 41 (znd pc 16 (znd pc 6 (znd pc 1 (znd pc 0 (zlf pc 0 (o_lload 1 1)) (zlf pc 1 (o_lstore 4 3))) (znd pc 3 (zlf pc 3 (o_const 0 4)) (znd pc 4 (zlf pc 4 (o_istore 6 6)) (zlf pc 6 (o_iload 6 8))))) (znd pc 12 (znd pc 8 (zlf pc 8 (o_const 5 9)) (znd pc 9 (zlf pc 9 (o_cgt 32 12)) (zlf pc 12 (o_lload 4 14)))) (znd pc 14 (zlf pc 14 (o_aload 0 15)) (znd pc 15 (zlf pc 15 (o_iload 3 16)) (zlf pc 16 (o_iload 6 18)))))) (znd pc 29 (znd pc 21 (znd pc 18 (zlf pc 18 (o_callv 5 11 3 3 1 21)) (zlf pc 21 (o_call 28 2 3 2 24))) (znd pc 24 (zlf pc 24 (o_lstore 4 26)) (znd pc 26 (zlf pc 26 (o_iinc 6 1 29)) (zlf pc 29 (o_goto 6))))) (znd pc 35 (znd pc 32 (zlf pc 32 (o_const 0 33)) (znd pc 33 (zlf pc 33 (o_istore 6 35)) (zlf pc 35 (o_iload 6 37)))) (znd pc 37 (zlf pc 37 (o_aload 0 38)) (znd pc 38 (zlf pc 38 (o_getf 5 1 41)) (zlf pc 41 (o_getf 4 4 44))))))) (znd pc 61 (znd pc 50 (znd pc 45 (znd pc 44 (zlf pc 44 (o_iload 3 45)) (zlf pc 45 (o_iald 46))) (znd pc 46 (zlf pc 46 (o_cge 86 49)) (znd pc 49 (zlf pc 49 (o_const 0 50)) (zlf pc 50 (o_istore 7 52))))) (znd pc 55 (znd pc 52 (zlf pc 52 (o_iload 7 54)) (znd pc 54 (zlf pc 54 (o_const 4 55)) (zlf pc 55 (o_cgt 80 58)))) (znd pc 58 (zlf pc 58 (o_lload 4 60)) (znd pc 60 (zlf pc 60 (o_aload 0 61)) (zlf pc 61 (o_iload 3 62)))))) (znd pc 72 (znd pc 64 (znd pc 62 (zlf pc 62 (o_iload 6 64)) (zlf pc 64 (o_iload 7 66))) (znd pc 66 (zlf pc 66 (o_callv 5 12 4 5 1 69)) (znd pc 69 (zlf pc 69 (o_call 28 2 3 2 72)) (zlf pc 72 (o_lstore 4 74))))) (znd pc 80 (znd pc 74 (zlf pc 74 (o_iinc 7 1 77)) (znd pc 77 (zlf pc 77 (o_goto 52)) (zlf pc 80 (o_iinc 6 1 83)))) (znd pc 83 (zlf pc 83 (o_goto 35)) (znd pc 86 (zlf pc 86 (o_lload 4 88)) (zlf pc 88 (o_lret)))))))
/-- RepairShop.joined(JI)J -/
def zc_28 (pc : Nat) : zOp := znd pc 4 (znd pc 0 (zlf pc 0 (o_lconst 31 3)) (znd pc 3 (zlf pc 3 (o_lload 0 4)) (zlf pc 4 (o_lmul 5)))) (znd pc 6 (znd pc 5 (zlf pc 5 (o_iload 2 6)) (zlf pc 6 (o_i2l 7))) (znd pc 7 (zlf pc 7 (o_ladd 8)) (zlf pc 8 (o_lret))))
/-- RepairShop.valueOfPlans(I)I -/
def zc_29 (pc : Nat) : zOp := znd pc 47 (znd pc 33 (znd pc 28 (znd pc 0 (zlf pc 0 (o_iload 1 1)) (znd pc 1 (zlf pc 1 (o_sw [(6, 28), (7, 43), (8, 58)] 66)) (zlf pc 28 (o_aload 0 29)))) (znd pc 29 (zlf pc 29 (o_getf 5 1 32)) (znd pc 32 (zlf pc 32 (o_aload 0 33)) (zlf pc 33 (o_getf 5 1 36))))) (znd pc 42 (znd pc 36 (zlf pc 36 (o_getf 4 12 39)) (znd pc 39 (zlf pc 39 (o_callv 4 161 2 4 1 42)) (zlf pc 42 (o_iret)))) (znd pc 43 (zlf pc 43 (o_aload 0 44)) (znd pc 44 (zlf pc 44 (o_getf 5 1 47)) (zlf pc 47 (o_aload 0 48)))))) (znd pc 59 (znd pc 54 (znd pc 48 (zlf pc 48 (o_getf 5 1 51)) (znd pc 51 (zlf pc 51 (o_getf 4 13 54)) (zlf pc 54 (o_callv 4 161 2 4 1 57)))) (znd pc 57 (zlf pc 57 (o_iret)) (znd pc 58 (zlf pc 58 (o_aload 0 59)) (zlf pc 59 (o_getf 5 1 62))))) (znd pc 66 (znd pc 62 (zlf pc 62 (o_callv 4 162 1 3 1 65)) (znd pc 65 (zlf pc 65 (o_iret)) (zlf pc 66 (o_aload 0 67)))) (znd pc 67 (zlf pc 67 (o_getf 5 1 70)) (znd pc 70 (zlf pc 70 (o_callv 4 166 1 5 1 73)) (zlf pc 73 (o_iret))))))
/-- RepairShop.takeNewPlan(I)I -/
def zc_30 (pc : Nat) : zOp := znd pc 26 (znd pc 9 (znd pc 4 (znd pc 0 (zlf pc 0 (o_aload 0 1)) (znd pc 1 (zlf pc 1 (o_getf 5 0 4)) (zlf pc 4 (o_iload 1 5)))) (znd pc 5 (zlf pc 5 (o_callv 3 134 2 2 0 8)) (znd pc 8 (zlf pc 8 (o_aload 0 9)) (zlf pc 9 (o_getf 5 0 12))))) (znd pc 16 (znd pc 12 (zlf pc 12 (o_aload 0 13)) (znd pc 13 (zlf pc 13 (o_getf 5 1 16)) (zlf pc 16 (o_getf 4 12 19)))) (znd pc 22 (znd pc 19 (zlf pc 19 (o_callv 3 130 2 2 0 22)) (zlf pc 22 (o_aload 0 23))) (znd pc 23 (zlf pc 23 (o_getf 5 0 26)) (zlf pc 26 (o_aload 0 27)))))) (znd pc 41 (znd pc 33 (znd pc 27 (zlf pc 27 (o_getf 5 1 30)) (znd pc 30 (zlf pc 30 (o_getf 4 13 33)) (zlf pc 33 (o_callv 3 130 2 2 0 36)))) (znd pc 37 (znd pc 36 (zlf pc 36 (o_aload 0 37)) (zlf pc 37 (o_getf 5 1 40))) (znd pc 40 (zlf pc 40 (o_const 1 41)) (zlf pc 41 (o_putz 4 11 44))))) (znd pc 48 (znd pc 44 (zlf pc 44 (o_aload 0 45)) (znd pc 45 (zlf pc 45 (o_getf 5 1 48)) (zlf pc 48 (o_aload 0 49)))) (znd pc 52 (znd pc 49 (zlf pc 49 (o_getf 5 1 52)) (zlf pc 52 (o_getf 4 13 55))) (znd pc 55 (zlf pc 55 (o_callv 4 161 2 4 1 58)) (zlf pc 58 (o_iret))))))
/-- RepairShop.latenessWithOvertime(II)I -/
def zc_31 (pc : Nat) : zOp := znd pc 31 (znd pc 14 (znd pc 7 (znd pc 1 (znd pc 0 (zlf pc 0 (o_aload 0 1)) (zlf pc 1 (o_getf 5 1 4))) (znd pc 4 (zlf pc 4 (o_getf 4 6 7)) (zlf pc 7 (o_iload 1 8)))) (znd pc 9 (znd pc 8 (zlf pc 8 (o_iald 9)) (zlf pc 9 (o_const 1 10))) (znd pc 10 (zlf pc 10 (o_cgt 22 13)) (znd pc 13 (zlf pc 13 (o_aload 0 14)) (zlf pc 14 (o_getf 5 0 17)))))) (znd pc 22 (znd pc 18 (znd pc 17 (zlf pc 17 (o_iload 2 18)) (zlf pc 18 (o_callv 3 132 2 2 1 21))) (znd pc 21 (zlf pc 21 (o_iret)) (zlf pc 22 (o_aload 0 23)))) (znd pc 26 (znd pc 23 (zlf pc 23 (o_getf 5 1 26)) (zlf pc 26 (o_getf 4 6 29))) (znd pc 29 (zlf pc 29 (o_iload 1 30)) (znd pc 30 (zlf pc 30 (o_dup2 31)) (zlf pc 31 (o_iald 32))))))) (znd pc 44 (znd pc 35 (znd pc 33 (znd pc 32 (zlf pc 32 (o_const 1 33)) (zlf pc 33 (o_isub 34))) (znd pc 34 (zlf pc 34 (o_iast 35)) (zlf pc 35 (o_aload 0 36)))) (znd pc 39 (znd pc 36 (zlf pc 36 (o_getf 5 0 39)) (zlf pc 39 (o_iload 2 40))) (znd pc 40 (zlf pc 40 (o_callv 3 132 2 2 1 43)) (znd pc 43 (zlf pc 43 (o_istore 3 44)) (zlf pc 44 (o_aload 0 45)))))) (znd pc 53 (znd pc 48 (znd pc 45 (zlf pc 45 (o_getf 5 1 48)) (zlf pc 48 (o_getf 4 6 51))) (znd pc 51 (zlf pc 51 (o_iload 1 52)) (znd pc 52 (zlf pc 52 (o_dup2 53)) (zlf pc 53 (o_iald 54))))) (znd pc 55 (znd pc 54 (zlf pc 54 (o_const 1 55)) (zlf pc 55 (o_iadd 56))) (znd pc 56 (zlf pc 56 (o_iast 57)) (znd pc 57 (zlf pc 57 (o_iload 3 58)) (zlf pc 58 (o_iret)))))))
/-- RepairShop.carriesOutOrder()Z -/
def zc_32 (pc : Nat) : zOp := znd pc 110 (znd pc 71 (znd pc 17 (znd pc 8 (znd pc 1 (znd pc 0 (zlf pc 0 (o_aload 0 1)) (zlf pc 1 (o_getf 5 3 4))) (znd pc 4 (zlf pc 4 (o_getf 2 5 7)) (znd pc 7 (zlf pc 7 (o_istore 1 8)) (zlf pc 8 (o_aload 0 9))))) (znd pc 12 (znd pc 9 (zlf pc 9 (o_getf 5 3 12)) (zlf pc 12 (o_getf 2 6 15))) (znd pc 15 (zlf pc 15 (o_istore 2 16)) (znd pc 16 (zlf pc 16 (o_aload 0 17)) (zlf pc 17 (o_getf 5 3 20)))))) (znd pc 28 (znd pc 23 (znd pc 20 (zlf pc 20 (o_getf 2 7 23)) (zlf pc 23 (o_istore 3 24))) (znd pc 24 (zlf pc 24 (o_aload 0 25)) (znd pc 25 (zlf pc 25 (o_getf 5 3 28)) (zlf pc 28 (o_getf 2 4 31))))) (znd pc 64 (znd pc 31 (zlf pc 31 (o_sw [(100, 136), (106, 64), (111, 88)] 172)) (zlf pc 64 (o_aload 0 65))) (znd pc 65 (zlf pc 65 (o_getf 5 1 68)) (znd pc 68 (zlf pc 68 (o_callv 4 150 1 1 1 71)) (zlf pc 71 (o_ifne 76 74))))))) (znd pc 87 (znd pc 80 (znd pc 75 (znd pc 74 (zlf pc 74 (o_const 0 75)) (zlf pc 75 (o_zret))) (znd pc 76 (zlf pc 76 (o_aload 0 77)) (znd pc 77 (zlf pc 77 (o_getf 5 1 80)) (zlf pc 80 (o_iload 1 81))))) (znd pc 82 (znd pc 81 (zlf pc 81 (o_iload 2 82)) (zlf pc 82 (o_callv 4 153 3 3 1 85))) (znd pc 85 (zlf pc 85 (o_pop 86)) (znd pc 86 (zlf pc 86 (o_const 1 87)) (zlf pc 87 (o_zret)))))) (znd pc 96 (znd pc 89 (znd pc 88 (zlf pc 88 (o_aload 0 89)) (zlf pc 89 (o_getf 5 1 92))) (znd pc 92 (zlf pc 92 (o_iload 1 93)) (znd pc 93 (zlf pc 93 (o_callv 4 147 2 2 1 96)) (zlf pc 96 (o_ifeq 121 99))))) (znd pc 103 (znd pc 99 (zlf pc 99 (o_aload 0 100)) (znd pc 100 (zlf pc 100 (o_getf 5 1 103)) (zlf pc 103 (o_iload 2 104)))) (znd pc 104 (zlf pc 104 (o_callv 4 146 2 2 1 107)) (znd pc 107 (zlf pc 107 (o_ifeq 121 110)) (zlf pc 110 (o_aload 0 111)))))))) (znd pc 144 (znd pc 128 (znd pc 121 (znd pc 114 (znd pc 111 (zlf pc 111 (o_getf 5 1 114)) (zlf pc 114 (o_iload 1 115))) (znd pc 115 (zlf pc 115 (o_callv 4 151 2 2 1 118)) (znd pc 118 (zlf pc 118 (o_ifne 123 121)) (zlf pc 121 (o_const 0 122))))) (znd pc 123 (znd pc 122 (zlf pc 122 (o_zret)) (zlf pc 123 (o_aload 0 124))) (znd pc 124 (zlf pc 124 (o_getf 5 1 127)) (znd pc 127 (zlf pc 127 (o_iload 1 128)) (zlf pc 128 (o_iload 2 129)))))) (znd pc 135 (znd pc 130 (znd pc 129 (zlf pc 129 (o_iload 3 130)) (zlf pc 130 (o_callv 4 154 4 5 1 133))) (znd pc 133 (zlf pc 133 (o_pop 134)) (znd pc 134 (zlf pc 134 (o_const 1 135)) (zlf pc 135 (o_zret))))) (znd pc 137 (znd pc 136 (zlf pc 136 (o_aload 0 137)) (zlf pc 137 (o_getf 5 1 140))) (znd pc 140 (zlf pc 140 (o_iload 1 141)) (znd pc 141 (zlf pc 141 (o_callv 4 146 2 2 1 144)) (zlf pc 144 (o_ifeq 157 147))))))) (znd pc 164 (znd pc 157 (znd pc 148 (znd pc 147 (zlf pc 147 (o_aload 0 148)) (zlf pc 148 (o_getf 5 1 151))) (znd pc 151 (zlf pc 151 (o_callv 4 152 1 1 1 154)) (znd pc 154 (zlf pc 154 (o_ifne 159 157)) (zlf pc 157 (o_const 0 158))))) (znd pc 159 (znd pc 158 (zlf pc 158 (o_zret)) (zlf pc 159 (o_aload 0 160))) (znd pc 160 (zlf pc 160 (o_getf 5 1 163)) (znd pc 163 (zlf pc 163 (o_iload 1 164)) (zlf pc 164 (o_iload 2 165)))))) (znd pc 171 (znd pc 166 (znd pc 165 (zlf pc 165 (o_iload 3 166)) (zlf pc 166 (o_callv 4 155 4 4 1 169))) (znd pc 169 (zlf pc 169 (o_pop 170)) (znd pc 170 (zlf pc 170 (o_const 1 171)) (zlf pc 171 (o_zret))))) (znd pc 174 (znd pc 172 (zlf pc 172 (o_aload 0 173)) (znd pc 173 (zlf pc 173 (o_iload 1 174)) (zlf pc 174 (o_callv 5 30 2 2 1 177)))) (znd pc 177 (zlf pc 177 (o_pop 178)) (znd pc 178 (zlf pc 178 (o_const 1 179)) (zlf pc 179 (o_zret))))))))
/-- RepairShop.isBetween(III)Z -/
def zc_33 (pc : Nat) : zOp := znd pc 6 (znd pc 1 (znd pc 0 (zlf pc 0 (o_iload 1 1)) (zlf pc 1 (o_iload 0 2))) (znd pc 2 (zlf pc 2 (o_cgt 14 5)) (znd pc 5 (zlf pc 5 (o_iload 0 6)) (zlf pc 6 (o_iload 2 7))))) (znd pc 10 (znd pc 7 (zlf pc 7 (o_cgt 14 10)) (zlf pc 10 (o_const 1 11))) (znd pc 11 (zlf pc 11 (o_goto 15)) (znd pc 14 (zlf pc 14 (o_const 0 15)) (zlf pc 15 (o_zret)))))
/-- RepairShop.isRule(I)Z -/
def zc_34 (pc : Nat) : zOp := znd pc 1 (znd pc 0 (zlf pc 0 (o_iload 0 1)) (zlf pc 1 (o_const 0 2))) (znd pc 2 (zlf pc 2 (o_const 3 3)) (znd pc 3 (zlf pc 3 (o_call 33 3 3 1 6)) (zlf pc 6 (o_zret))))
/-- RepairShop.slotOf(II)I -/
def zc_35 (pc : Nat) : zOp := znd pc 2 (znd pc 0 (zlf pc 0 (o_const 5 1)) (znd pc 1 (zlf pc 1 (o_iload 0 2)) (zlf pc 2 (o_imul 3)))) (znd pc 3 (zlf pc 3 (o_iload 1 4)) (znd pc 4 (zlf pc 4 (o_iadd 5)) (zlf pc 5 (o_iret))))
/-- RepairShopModel.thrown()I -/
def zc_36 (pc : Nat) : zOp := znd pc 0 (zlf pc 0 (o_aload 0 1)) (znd pc 1 (zlf pc 1 (o_getf 6 0 4)) (zlf pc 4 (o_iret)))
/-- RepairShopModel.copy([II[II)V -/
def zc_37 (pc : Nat) : zOp := znd pc 15 (znd pc 5 (znd pc 1 (znd pc 0 (zlf pc 0 (o_const 0 1)) (zlf pc 1 (o_istore 4 3))) (znd pc 3 (zlf pc 3 (o_iload 4 5)) (zlf pc 5 (o_const 161 8)))) (znd pc 11 (znd pc 8 (zlf pc 8 (o_cge 29 11)) (zlf pc 11 (o_aload 2 12))) (znd pc 12 (zlf pc 12 (o_iload 3 13)) (znd pc 13 (zlf pc 13 (o_iload 4 15)) (zlf pc 15 (o_iadd 16)))))) (znd pc 20 (znd pc 17 (znd pc 16 (zlf pc 16 (o_aload 0 17)) (zlf pc 17 (o_iload 1 18))) (znd pc 18 (zlf pc 18 (o_iload 4 20)) (zlf pc 20 (o_iadd 21)))) (znd pc 22 (znd pc 21 (zlf pc 21 (o_iald 22)) (zlf pc 22 (o_iast 23))) (znd pc 23 (zlf pc 23 (o_iinc 4 1 26)) (znd pc 26 (zlf pc 26 (o_goto 3)) (zlf pc 29 (o_ret))))))
/-- RepairShopModel.within(III)Z -/
def zc_38 (pc : Nat) : zOp := znd pc 6 (znd pc 1 (znd pc 0 (zlf pc 0 (o_iload 0 1)) (zlf pc 1 (o_iload 1 2))) (znd pc 2 (zlf pc 2 (o_clt 14 5)) (znd pc 5 (zlf pc 5 (o_iload 0 6)) (zlf pc 6 (o_iload 2 7))))) (znd pc 10 (znd pc 7 (zlf pc 7 (o_cgt 14 10)) (zlf pc 10 (o_const 1 11))) (znd pc 11 (zlf pc 11 (o_goto 15)) (znd pc 14 (zlf pc 14 (o_const 0 15)) (zlf pc 15 (o_zret)))))
/-- RepairShopModel.save()V -/
def zc_39 (pc : Nat) : zOp := znd pc 39 (znd pc 18 (znd pc 8 (znd pc 1 (znd pc 0 (zlf pc 0 (o_aload 0 1)) (zlf pc 1 (o_getf 6 4 4))) (znd pc 4 (zlf pc 4 (o_const 4 5)) (znd pc 5 (zlf pc 5 (o_cne 49 8)) (zlf pc 8 (o_const 0 9))))) (znd pc 11 (znd pc 9 (zlf pc 9 (o_istore 1 10)) (znd pc 10 (zlf pc 10 (o_iload 1 11)) (zlf pc 11 (o_const 483 14)))) (znd pc 14 (zlf pc 14 (o_cge 39 17)) (znd pc 17 (zlf pc 17 (o_aload 0 18)) (zlf pc 18 (o_getf 6 3 21)))))) (znd pc 27 (znd pc 22 (znd pc 21 (zlf pc 21 (o_iload 1 22)) (zlf pc 22 (o_aload 0 23))) (znd pc 23 (zlf pc 23 (o_getf 6 3 26)) (znd pc 26 (zlf pc 26 (o_iload 1 27)) (zlf pc 27 (o_const 161 30))))) (znd pc 32 (znd pc 30 (zlf pc 30 (o_iadd 31)) (znd pc 31 (zlf pc 31 (o_iald 32)) (zlf pc 32 (o_iast 33)))) (znd pc 33 (zlf pc 33 (o_iinc 1 1 36)) (znd pc 36 (zlf pc 36 (o_goto 10)) (zlf pc 39 (o_aload 0 40))))))) (znd pc 58 (znd pc 46 (znd pc 41 (znd pc 40 (zlf pc 40 (o_dup 41)) (zlf pc 41 (o_getf 6 4 44))) (znd pc 44 (zlf pc 44 (o_const 1 45)) (znd pc 45 (zlf pc 45 (o_isub 46)) (zlf pc 46 (o_putf 6 4 49))))) (znd pc 53 (znd pc 49 (zlf pc 49 (o_aload 0 50)) (znd pc 50 (zlf pc 50 (o_getf 6 1 53)) (zlf pc 53 (o_const 0 54)))) (znd pc 54 (zlf pc 54 (o_aload 0 55)) (znd pc 55 (zlf pc 55 (o_getf 6 3 58)) (zlf pc 58 (o_aload 0 59)))))) (znd pc 69 (znd pc 62 (znd pc 59 (zlf pc 59 (o_getf 6 4 62)) (zlf pc 62 (o_const 161 65))) (znd pc 65 (zlf pc 65 (o_imul 66)) (znd pc 66 (zlf pc 66 (o_call 37 4 5 0 69)) (zlf pc 69 (o_aload 0 70))))) (znd pc 74 (znd pc 70 (zlf pc 70 (o_dup 71)) (znd pc 71 (zlf pc 71 (o_getf 6 4 74)) (zlf pc 74 (o_const 1 75)))) (znd pc 75 (zlf pc 75 (o_iadd 76)) (znd pc 76 (zlf pc 76 (o_putf 6 4 79)) (zlf pc 79 (o_ret)))))))
/-- RepairShopModel.isMachine(I)Z -/
def zc_40 (pc : Nat) : zOp := znd pc 6 (znd pc 1 (znd pc 0 (zlf pc 0 (o_iload 1 1)) (zlf pc 1 (o_const 0 2))) (znd pc 2 (zlf pc 2 (o_aload 0 3)) (znd pc 3 (zlf pc 3 (o_getf 6 1 6)) (zlf pc 6 (o_const 0 7))))) (znd pc 8 (znd pc 7 (zlf pc 7 (o_iald 8)) (zlf pc 8 (o_const 1 9))) (znd pc 9 (zlf pc 9 (o_isub 10)) (znd pc 10 (zlf pc 10 (o_call 38 3 3 1 13)) (zlf pc 13 (o_zret)))))
/-- RepairShopModel.isJob(I)Z -/
def zc_41 (pc : Nat) : zOp := znd pc 6 (znd pc 1 (znd pc 0 (zlf pc 0 (o_iload 1 1)) (zlf pc 1 (o_const 0 2))) (znd pc 2 (zlf pc 2 (o_aload 0 3)) (znd pc 3 (zlf pc 3 (o_getf 6 1 6)) (zlf pc 6 (o_const 1 7))))) (znd pc 8 (znd pc 7 (zlf pc 7 (o_iald 8)) (zlf pc 8 (o_const 1 9))) (znd pc 9 (zlf pc 9 (o_isub 10)) (znd pc 10 (zlf pc 10 (o_call 38 3 3 1 13)) (zlf pc 13 (o_zret)))))
/-- RepairShopModel.jobPart(II)I -/
def zc_42 (pc : Nat) : zOp := znd pc 6 (znd pc 1 (znd pc 0 (zlf pc 0 (o_aload 0 1)) (zlf pc 1 (o_getf 6 1 4))) (znd pc 4 (zlf pc 4 (o_const 5 5)) (znd pc 5 (zlf pc 5 (o_const 3 6)) (zlf pc 6 (o_iload 1 7))))) (znd pc 9 (znd pc 7 (zlf pc 7 (o_imul 8)) (znd pc 8 (zlf pc 8 (o_iadd 9)) (zlf pc 9 (o_iload 2 10)))) (znd pc 10 (zlf pc 10 (o_iadd 11)) (znd pc 11 (zlf pc 11 (o_iald 12)) (zlf pc 12 (o_iret)))))
/-- RepairShopModel.placeOf(II)I -/
def zc_43 (pc : Nat) : zOp := znd pc 5 (znd pc 2 (znd pc 0 (zlf pc 0 (o_const 23 2)) (zlf pc 2 (o_const 4 3))) (znd pc 3 (zlf pc 3 (o_const 5 4)) (znd pc 4 (zlf pc 4 (o_iload 0 5)) (zlf pc 5 (o_imul 6))))) (znd pc 7 (znd pc 6 (zlf pc 6 (o_iload 1 7)) (zlf pc 7 (o_iadd 8))) (znd pc 8 (zlf pc 8 (o_imul 9)) (znd pc 9 (zlf pc 9 (o_iadd 10)) (zlf pc 10 (o_iret)))))
/-- RepairShopModel.part(III)I -/
def zc_44 (pc : Nat) : zOp := znd pc 5 (znd pc 1 (znd pc 0 (zlf pc 0 (o_aload 0 1)) (zlf pc 1 (o_getf 6 1 4))) (znd pc 4 (zlf pc 4 (o_iload 1 5)) (zlf pc 5 (o_iload 2 6)))) (znd pc 9 (znd pc 6 (zlf pc 6 (o_call 43 2 2 1 9)) (zlf pc 9 (o_iload 3 10))) (znd pc 10 (zlf pc 10 (o_iadd 11)) (znd pc 11 (zlf pc 11 (o_iald 12)) (zlf pc 12 (o_iret)))))
/-- RepairShopModel.isOperation(II)Z -/
def zc_45 (pc : Nat) : zOp := znd pc 12 (znd pc 5 (znd pc 1 (znd pc 0 (zlf pc 0 (o_aload 0 1)) (zlf pc 1 (o_iload 1 2))) (znd pc 2 (zlf pc 2 (o_callv 6 41 2 2 1 5)) (zlf pc 5 (o_ifeq 28 8)))) (znd pc 9 (znd pc 8 (zlf pc 8 (o_iload 2 9)) (zlf pc 9 (o_const 0 10))) (znd pc 10 (zlf pc 10 (o_aload 0 11)) (znd pc 11 (zlf pc 11 (o_iload 1 12)) (zlf pc 12 (o_const 2 13)))))) (znd pc 18 (znd pc 16 (znd pc 13 (zlf pc 13 (o_callv 6 42 3 3 1 16)) (zlf pc 16 (o_const 1 17))) (znd pc 17 (zlf pc 17 (o_isub 18)) (zlf pc 18 (o_call 38 3 3 1 21)))) (znd pc 24 (znd pc 21 (zlf pc 21 (o_ifeq 28 24)) (zlf pc 24 (o_const 1 25))) (znd pc 25 (zlf pc 25 (o_goto 29)) (znd pc 28 (zlf pc 28 (o_const 0 29)) (zlf pc 29 (o_zret))))))
/-- RepairShopModel.breakPart(II)I -/
def zc_46 (pc : Nat) : zOp := znd pc 8 (znd pc 1 (znd pc 0 (zlf pc 0 (o_aload 0 1)) (zlf pc 1 (o_getf 6 1 4))) (znd pc 4 (zlf pc 4 (o_const 143 7)) (znd pc 7 (zlf pc 7 (o_const 3 8)) (zlf pc 8 (o_iload 1 9))))) (znd pc 11 (znd pc 9 (zlf pc 9 (o_imul 10)) (znd pc 10 (zlf pc 10 (o_iadd 11)) (zlf pc 11 (o_iload 2 12)))) (znd pc 12 (zlf pc 12 (o_iadd 13)) (znd pc 13 (zlf pc 13 (o_iald 14)) (zlf pc 14 (o_iret)))))
/-- RepairShopModel.begin(I)I -/
def zc_47 (pc : Nat) : zOp := znd pc 39 (znd pc 19 (znd pc 7 (znd pc 2 (znd pc 0 (zlf pc 0 (o_aload 0 1)) (znd pc 1 (zlf pc 1 (o_iload 1 2)) (zlf pc 2 (o_const 2 3)))) (znd pc 3 (zlf pc 3 (o_const 5 4)) (znd pc 4 (zlf pc 4 (o_call 38 3 3 1 7)) (zlf pc 7 (o_ifeq 14 10))))) (znd pc 14 (znd pc 10 (zlf pc 10 (o_const 0 11)) (znd pc 11 (zlf pc 11 (o_goto 15)) (zlf pc 14 (o_const 1 15)))) (znd pc 15 (zlf pc 15 (o_putf 6 0 18)) (znd pc 18 (zlf pc 18 (o_aload 0 19)) (zlf pc 19 (o_getf 6 0 22)))))) (znd pc 31 (znd pc 26 (znd pc 22 (zlf pc 22 (o_ifle 27 25)) (znd pc 25 (zlf pc 25 (o_const 0 26)) (zlf pc 26 (o_iret)))) (znd pc 27 (zlf pc 27 (o_aload 0 28)) (znd pc 28 (zlf pc 28 (o_callv 6 39 1 2 0 31)) (zlf pc 31 (o_aload 0 32))))) (znd pc 36 (znd pc 32 (zlf pc 32 (o_getf 6 1 35)) (znd pc 35 (zlf pc 35 (o_const 1 36)) (zlf pc 36 (o_iald 37)))) (znd pc 37 (zlf pc 37 (o_istore 2 38)) (znd pc 38 (zlf pc 38 (o_aload 0 39)) (zlf pc 39 (o_getf 6 1 42))))))) (znd pc 57 (znd pc 49 (znd pc 44 (znd pc 42 (zlf pc 42 (o_const 0 43)) (znd pc 43 (zlf pc 43 (o_iload 1 44)) (zlf pc 44 (o_iast 45)))) (znd pc 45 (zlf pc 45 (o_aload 0 46)) (znd pc 46 (zlf pc 46 (o_getf 6 1 49)) (zlf pc 49 (o_const 1 50))))) (znd pc 52 (znd pc 50 (zlf pc 50 (o_const 0 51)) (znd pc 51 (zlf pc 51 (o_iast 52)) (zlf pc 52 (o_aload 0 53)))) (znd pc 53 (zlf pc 53 (o_getf 6 1 56)) (znd pc 56 (zlf pc 56 (o_const 2 57)) (zlf pc 57 (o_const 0 58)))))) (znd pc 65 (znd pc 60 (znd pc 58 (zlf pc 58 (o_iast 59)) (znd pc 59 (zlf pc 59 (o_aload 0 60)) (zlf pc 60 (o_getf 6 1 63)))) (znd pc 63 (zlf pc 63 (o_const 3 64)) (znd pc 64 (zlf pc 64 (o_const 0 65)) (zlf pc 65 (o_iast 66))))) (znd pc 70 (znd pc 66 (zlf pc 66 (o_aload 0 67)) (znd pc 67 (zlf pc 67 (o_getf 6 1 70)) (zlf pc 70 (o_const 4 71)))) (znd pc 72 (znd pc 71 (zlf pc 71 (o_const 0 72)) (zlf pc 72 (o_iast 73))) (znd pc 73 (zlf pc 73 (o_iload 2 74)) (zlf pc 74 (o_iret)))))))
/-- RepairShopModel.whyNoJob(II)I -/
def zc_48 (pc : Nat) : zOp := znd pc 21 (znd pc 7 (znd pc 1 (znd pc 0 (zlf pc 0 (o_iload 1 1)) (zlf pc 1 (o_const 1 2))) (znd pc 2 (zlf pc 2 (o_const 9 4)) (znd pc 4 (zlf pc 4 (o_call 38 3 3 1 7)) (zlf pc 7 (o_ifeq 21 10))))) (znd pc 12 (znd pc 10 (zlf pc 10 (o_iload 2 11)) (znd pc 11 (zlf pc 11 (o_const 0 12)) (zlf pc 12 (o_const 999 15)))) (znd pc 15 (zlf pc 15 (o_call 38 3 3 1 18)) (znd pc 18 (zlf pc 18 (o_ifne 25 21)) (zlf pc 21 (o_const 1 22)))))) (znd pc 30 (znd pc 25 (znd pc 22 (zlf pc 22 (o_goto 41)) (zlf pc 25 (o_aload 0 26))) (znd pc 26 (zlf pc 26 (o_getf 6 1 29)) (znd pc 29 (zlf pc 29 (o_const 1 30)) (zlf pc 30 (o_iald 31))))) (znd pc 36 (znd pc 31 (zlf pc 31 (o_const 6 33)) (znd pc 33 (zlf pc 33 (o_cne 40 36)) (zlf pc 36 (o_const 2 37)))) (znd pc 37 (zlf pc 37 (o_goto 41)) (znd pc 40 (zlf pc 40 (o_const 0 41)) (zlf pc 41 (o_iret))))))
/-- RepairShopModel.putJob(II)I -/
def zc_49 (pc : Nat) : zOp := znd pc 31 (znd pc 16 (znd pc 7 (znd pc 4 (znd pc 0 (zlf pc 0 (o_aload 0 1)) (znd pc 1 (zlf pc 1 (o_getf 6 1 4)) (zlf pc 4 (o_const 1 5)))) (znd pc 5 (zlf pc 5 (o_iald 6)) (znd pc 6 (zlf pc 6 (o_istore 3 7)) (zlf pc 7 (o_aload 0 8))))) (znd pc 12 (znd pc 8 (zlf pc 8 (o_getf 6 1 11)) (znd pc 11 (zlf pc 11 (o_const 5 12)) (zlf pc 12 (o_const 3 13)))) (znd pc 14 (znd pc 13 (zlf pc 13 (o_iload 3 14)) (zlf pc 14 (o_imul 15))) (znd pc 15 (zlf pc 15 (o_iadd 16)) (zlf pc 16 (o_const 0 17)))))) (znd pc 24 (znd pc 19 (znd pc 17 (zlf pc 17 (o_iadd 18)) (znd pc 18 (zlf pc 18 (o_iload 1 19)) (zlf pc 19 (o_iast 20)))) (znd pc 20 (zlf pc 20 (o_aload 0 21)) (znd pc 21 (zlf pc 21 (o_getf 6 1 24)) (zlf pc 24 (o_const 5 25))))) (znd pc 27 (znd pc 25 (zlf pc 25 (o_const 3 26)) (znd pc 26 (zlf pc 26 (o_iload 3 27)) (zlf pc 27 (o_imul 28)))) (znd pc 29 (znd pc 28 (zlf pc 28 (o_iadd 29)) (zlf pc 29 (o_const 1 30))) (znd pc 30 (zlf pc 30 (o_iadd 31)) (zlf pc 31 (o_iload 2 32))))))) (znd pc 46 (znd pc 39 (znd pc 34 (znd pc 32 (zlf pc 32 (o_iast 33)) (znd pc 33 (zlf pc 33 (o_aload 0 34)) (zlf pc 34 (o_getf 6 1 37)))) (znd pc 37 (zlf pc 37 (o_const 5 38)) (znd pc 38 (zlf pc 38 (o_const 3 39)) (zlf pc 39 (o_iload 3 40))))) (znd pc 42 (znd pc 40 (zlf pc 40 (o_imul 41)) (znd pc 41 (zlf pc 41 (o_iadd 42)) (zlf pc 42 (o_const 2 43)))) (znd pc 44 (znd pc 43 (zlf pc 43 (o_iadd 44)) (zlf pc 44 (o_const 0 45))) (znd pc 45 (zlf pc 45 (o_iast 46)) (zlf pc 46 (o_aload 0 47)))))) (znd pc 55 (znd pc 51 (znd pc 47 (zlf pc 47 (o_getf 6 1 50)) (znd pc 50 (zlf pc 50 (o_const 1 51)) (zlf pc 51 (o_dup2 52)))) (znd pc 53 (znd pc 52 (zlf pc 52 (o_iald 53)) (zlf pc 53 (o_const 1 54))) (znd pc 54 (zlf pc 54 (o_iadd 55)) (zlf pc 55 (o_iast 56))))) (znd pc 60 (znd pc 56 (zlf pc 56 (o_aload 0 57)) (znd pc 57 (zlf pc 57 (o_getf 6 1 60)) (zlf pc 60 (o_const 3 61)))) (znd pc 62 (znd pc 61 (zlf pc 61 (o_const 0 62)) (zlf pc 62 (o_iast 63))) (znd pc 63 (zlf pc 63 (o_iload 3 64)) (zlf pc 64 (o_iret)))))))
/-- RepairShopModel.addJob(II)I -/
def zc_50 (pc : Nat) : zOp := znd pc 14 (znd pc 3 (znd pc 1 (znd pc 0 (zlf pc 0 (o_aload 0 1)) (zlf pc 1 (o_aload 0 2))) (znd pc 2 (zlf pc 2 (o_iload 1 3)) (zlf pc 3 (o_iload 2 4)))) (znd pc 7 (znd pc 4 (zlf pc 4 (o_callv 6 48 3 3 1 7)) (zlf pc 7 (o_putf 6 0 10))) (znd pc 10 (zlf pc 10 (o_aload 0 11)) (znd pc 11 (zlf pc 11 (o_getf 6 0 14)) (zlf pc 14 (o_ifle 19 17)))))) (znd pc 20 (znd pc 18 (znd pc 17 (zlf pc 17 (o_const 0 18)) (zlf pc 18 (o_iret))) (znd pc 19 (zlf pc 19 (o_aload 0 20)) (zlf pc 20 (o_callv 6 39 1 2 0 23)))) (znd pc 24 (znd pc 23 (zlf pc 23 (o_aload 0 24)) (zlf pc 24 (o_iload 1 25))) (znd pc 25 (zlf pc 25 (o_iload 2 26)) (znd pc 26 (zlf pc 26 (o_callv 6 49 3 4 1 29)) (zlf pc 29 (o_iret))))))
/-- RepairShopModel.whyNoOperation(III)I -/
def zc_51 (pc : Nat) : zOp := znd pc 20 (znd pc 9 (znd pc 2 (znd pc 0 (zlf pc 0 (o_aload 0 1)) (znd pc 1 (zlf pc 1 (o_iload 1 2)) (zlf pc 2 (o_callv 6 41 2 2 1 5)))) (znd pc 5 (zlf pc 5 (o_ifeq 16 8)) (znd pc 8 (zlf pc 8 (o_aload 0 9)) (zlf pc 9 (o_iload 2 10))))) (znd pc 16 (znd pc 10 (zlf pc 10 (o_callv 6 40 2 2 1 13)) (znd pc 13 (zlf pc 13 (o_ifne 18 16)) (zlf pc 16 (o_const 1 17)))) (znd pc 18 (znd pc 17 (zlf pc 17 (o_iret)) (zlf pc 18 (o_iload 3 19))) (znd pc 19 (zlf pc 19 (o_const 1 20)) (zlf pc 20 (o_const 20 22)))))) (znd pc 34 (znd pc 28 (znd pc 22 (zlf pc 22 (o_call 38 3 3 1 25)) (znd pc 25 (zlf pc 25 (o_ifne 32 28)) (zlf pc 28 (o_const 2 29)))) (znd pc 32 (znd pc 29 (zlf pc 29 (o_goto 47)) (zlf pc 32 (o_aload 0 33))) (znd pc 33 (zlf pc 33 (o_iload 1 34)) (zlf pc 34 (o_const 2 35))))) (znd pc 39 (znd pc 35 (zlf pc 35 (o_callv 6 42 3 3 1 38)) (znd pc 38 (zlf pc 38 (o_const 5 39)) (zlf pc 39 (o_cne 46 42)))) (znd pc 43 (znd pc 42 (zlf pc 42 (o_const 3 43)) (zlf pc 43 (o_goto 47))) (znd pc 46 (zlf pc 46 (o_const 0 47)) (zlf pc 47 (o_iret))))))
/-- RepairShopModel.putOperation(III)I -/
def zc_52 (pc : Nat) : zOp := znd pc 34 (znd pc 18 (znd pc 6 (znd pc 1 (znd pc 0 (zlf pc 0 (o_aload 0 1)) (zlf pc 1 (o_iload 1 2))) (znd pc 2 (zlf pc 2 (o_const 2 3)) (znd pc 3 (zlf pc 3 (o_callv 6 42 3 3 1 6)) (zlf pc 6 (o_istore 4 8))))) (znd pc 12 (znd pc 8 (zlf pc 8 (o_aload 0 9)) (znd pc 9 (zlf pc 9 (o_getf 6 1 12)) (zlf pc 12 (o_iload 1 13)))) (znd pc 13 (zlf pc 13 (o_iload 4 15)) (znd pc 15 (zlf pc 15 (o_call 43 2 2 1 18)) (zlf pc 18 (o_const 0 19)))))) (znd pc 23 (znd pc 20 (znd pc 19 (zlf pc 19 (o_iadd 20)) (zlf pc 20 (o_iload 2 21))) (znd pc 21 (zlf pc 21 (o_iast 22)) (znd pc 22 (zlf pc 22 (o_aload 0 23)) (zlf pc 23 (o_getf 6 1 26))))) (znd pc 29 (znd pc 26 (zlf pc 26 (o_iload 1 27)) (znd pc 27 (zlf pc 27 (o_iload 4 29)) (zlf pc 29 (o_call 43 2 2 1 32)))) (znd pc 32 (zlf pc 32 (o_const 1 33)) (znd pc 33 (zlf pc 33 (o_iadd 34)) (zlf pc 34 (o_iload 3 35))))))) (znd pc 47 (znd pc 41 (znd pc 36 (znd pc 35 (zlf pc 35 (o_iast 36)) (zlf pc 36 (o_aload 0 37))) (znd pc 37 (zlf pc 37 (o_getf 6 1 40)) (znd pc 40 (zlf pc 40 (o_const 5 41)) (zlf pc 41 (o_const 3 42))))) (znd pc 44 (znd pc 42 (zlf pc 42 (o_iload 1 43)) (znd pc 43 (zlf pc 43 (o_imul 44)) (zlf pc 44 (o_iadd 45)))) (znd pc 45 (zlf pc 45 (o_const 2 46)) (znd pc 46 (zlf pc 46 (o_iadd 47)) (zlf pc 47 (o_dup2 48)))))) (znd pc 52 (znd pc 49 (znd pc 48 (zlf pc 48 (o_iald 49)) (zlf pc 49 (o_const 1 50))) (znd pc 50 (zlf pc 50 (o_iadd 51)) (znd pc 51 (zlf pc 51 (o_iast 52)) (zlf pc 52 (o_aload 0 53))))) (znd pc 57 (znd pc 53 (zlf pc 53 (o_getf 6 1 56)) (znd pc 56 (zlf pc 56 (o_const 3 57)) (zlf pc 57 (o_const 0 58)))) (znd pc 58 (zlf pc 58 (o_iast 59)) (znd pc 59 (zlf pc 59 (o_iload 4 61)) (zlf pc 61 (o_iret)))))))
/-- RepairShopModel.addOperation(III)I -/
def zc_53 (pc : Nat) : zOp := znd pc 15 (znd pc 4 (znd pc 1 (znd pc 0 (zlf pc 0 (o_aload 0 1)) (zlf pc 1 (o_aload 0 2))) (znd pc 2 (zlf pc 2 (o_iload 1 3)) (znd pc 3 (zlf pc 3 (o_iload 2 4)) (zlf pc 4 (o_iload 3 5))))) (znd pc 8 (znd pc 5 (zlf pc 5 (o_callv 6 51 4 4 1 8)) (zlf pc 8 (o_putf 6 0 11))) (znd pc 11 (zlf pc 11 (o_aload 0 12)) (znd pc 12 (zlf pc 12 (o_getf 6 0 15)) (zlf pc 15 (o_ifle 20 18)))))) (znd pc 24 (znd pc 19 (znd pc 18 (zlf pc 18 (o_const 0 19)) (zlf pc 19 (o_iret))) (znd pc 20 (zlf pc 20 (o_aload 0 21)) (znd pc 21 (zlf pc 21 (o_callv 6 39 1 2 0 24)) (zlf pc 24 (o_aload 0 25))))) (znd pc 26 (znd pc 25 (zlf pc 25 (o_iload 1 26)) (zlf pc 26 (o_iload 2 27))) (znd pc 27 (zlf pc 27 (o_iload 3 28)) (znd pc 28 (zlf pc 28 (o_callv 6 52 4 5 1 31)) (zlf pc 31 (o_iret))))))
/-- RepairShopModel.whyNoBreakdown(III)I -/
def zc_54 (pc : Nat) : zOp := znd pc 23 (znd pc 10 (znd pc 2 (znd pc 0 (zlf pc 0 (o_aload 0 1)) (znd pc 1 (zlf pc 1 (o_iload 1 2)) (zlf pc 2 (o_callv 6 40 2 2 1 5)))) (znd pc 8 (znd pc 5 (zlf pc 5 (o_ifne 10 8)) (zlf pc 8 (o_const 1 9))) (znd pc 9 (zlf pc 9 (o_iret)) (zlf pc 10 (o_iload 2 11))))) (znd pc 15 (znd pc 11 (zlf pc 11 (o_const 0 12)) (znd pc 12 (zlf pc 12 (o_const 500 15)) (zlf pc 15 (o_call 38 3 3 1 18)))) (znd pc 21 (znd pc 18 (zlf pc 18 (o_ifeq 31 21)) (zlf pc 21 (o_iload 3 22))) (znd pc 22 (zlf pc 22 (o_const 1 23)) (zlf pc 23 (o_const 50 25)))))) (znd pc 39 (znd pc 31 (znd pc 25 (zlf pc 25 (o_call 38 3 3 1 28)) (znd pc 28 (zlf pc 28 (o_ifne 35 31)) (zlf pc 31 (o_const 2 32)))) (znd pc 35 (znd pc 32 (zlf pc 32 (o_goto 51)) (zlf pc 35 (o_aload 0 36))) (znd pc 36 (zlf pc 36 (o_getf 6 1 39)) (zlf pc 39 (o_const 2 40))))) (znd pc 43 (znd pc 40 (zlf pc 40 (o_iald 41)) (znd pc 41 (zlf pc 41 (o_const 6 43)) (zlf pc 43 (o_cne 50 46)))) (znd pc 47 (znd pc 46 (zlf pc 46 (o_const 3 47)) (zlf pc 47 (o_goto 51))) (znd pc 50 (zlf pc 50 (o_const 0 51)) (zlf pc 51 (o_iret))))))
/-- RepairShopModel.putBreakdown(III)I -/
def zc_55 (pc : Nat) : zOp := znd pc 36 (znd pc 19 (znd pc 8 (znd pc 4 (znd pc 0 (zlf pc 0 (o_aload 0 1)) (znd pc 1 (zlf pc 1 (o_getf 6 1 4)) (zlf pc 4 (o_const 2 5)))) (znd pc 5 (zlf pc 5 (o_iald 6)) (znd pc 6 (zlf pc 6 (o_istore 4 8)) (zlf pc 8 (o_aload 0 9))))) (znd pc 15 (znd pc 9 (zlf pc 9 (o_getf 6 1 12)) (znd pc 12 (zlf pc 12 (o_const 143 15)) (zlf pc 15 (o_const 3 16)))) (znd pc 16 (zlf pc 16 (o_iload 4 18)) (znd pc 18 (zlf pc 18 (o_imul 19)) (zlf pc 19 (o_iadd 20)))))) (znd pc 25 (znd pc 22 (znd pc 20 (zlf pc 20 (o_const 0 21)) (znd pc 21 (zlf pc 21 (o_iadd 22)) (zlf pc 22 (o_iload 1 23)))) (znd pc 23 (zlf pc 23 (o_iast 24)) (znd pc 24 (zlf pc 24 (o_aload 0 25)) (zlf pc 25 (o_getf 6 1 28))))) (znd pc 32 (znd pc 28 (zlf pc 28 (o_const 143 31)) (znd pc 31 (zlf pc 31 (o_const 3 32)) (zlf pc 32 (o_iload 4 34)))) (znd pc 34 (zlf pc 34 (o_imul 35)) (znd pc 35 (zlf pc 35 (o_iadd 36)) (zlf pc 36 (o_const 1 37))))))) (znd pc 53 (znd pc 44 (znd pc 39 (znd pc 37 (zlf pc 37 (o_iadd 38)) (znd pc 38 (zlf pc 38 (o_iload 2 39)) (zlf pc 39 (o_iast 40)))) (znd pc 40 (zlf pc 40 (o_aload 0 41)) (znd pc 41 (zlf pc 41 (o_getf 6 1 44)) (zlf pc 44 (o_const 143 47))))) (znd pc 50 (znd pc 47 (zlf pc 47 (o_const 3 48)) (znd pc 48 (zlf pc 48 (o_iload 4 50)) (zlf pc 50 (o_imul 51)))) (znd pc 51 (zlf pc 51 (o_iadd 52)) (znd pc 52 (zlf pc 52 (o_const 2 53)) (zlf pc 53 (o_iadd 54)))))) (znd pc 61 (znd pc 56 (znd pc 54 (zlf pc 54 (o_iload 3 55)) (znd pc 55 (zlf pc 55 (o_iast 56)) (zlf pc 56 (o_aload 0 57)))) (znd pc 57 (zlf pc 57 (o_getf 6 1 60)) (znd pc 60 (zlf pc 60 (o_const 2 61)) (zlf pc 61 (o_dup2 62))))) (znd pc 64 (znd pc 62 (zlf pc 62 (o_iald 63)) (znd pc 63 (zlf pc 63 (o_const 1 64)) (zlf pc 64 (o_iadd 65)))) (znd pc 65 (zlf pc 65 (o_iast 66)) (znd pc 66 (zlf pc 66 (o_iload 4 68)) (zlf pc 68 (o_iret)))))))
/-- RepairShopModel.breakDown(III)I -/
def zc_56 (pc : Nat) : zOp := znd pc 15 (znd pc 4 (znd pc 1 (znd pc 0 (zlf pc 0 (o_aload 0 1)) (zlf pc 1 (o_aload 0 2))) (znd pc 2 (zlf pc 2 (o_iload 1 3)) (znd pc 3 (zlf pc 3 (o_iload 2 4)) (zlf pc 4 (o_iload 3 5))))) (znd pc 8 (znd pc 5 (zlf pc 5 (o_callv 6 54 4 4 1 8)) (zlf pc 8 (o_putf 6 0 11))) (znd pc 11 (zlf pc 11 (o_aload 0 12)) (znd pc 12 (zlf pc 12 (o_getf 6 0 15)) (zlf pc 15 (o_ifle 20 18)))))) (znd pc 24 (znd pc 19 (znd pc 18 (zlf pc 18 (o_const 0 19)) (zlf pc 19 (o_iret))) (znd pc 20 (zlf pc 20 (o_aload 0 21)) (znd pc 21 (zlf pc 21 (o_callv 6 39 1 2 0 24)) (zlf pc 24 (o_aload 0 25))))) (znd pc 26 (znd pc 25 (zlf pc 25 (o_iload 1 26)) (zlf pc 26 (o_iload 2 27))) (znd pc 27 (zlf pc 27 (o_iload 3 28)) (znd pc 28 (zlf pc 28 (o_callv 6 55 4 5 1 31)) (zlf pc 31 (o_iret))))))
/-- RepairShopModel.repaired()I -/
def zc_57 (pc : Nat) : zOp := znd pc 26 (znd pc 10 (znd pc 2 (znd pc 0 (zlf pc 0 (o_aload 0 1)) (znd pc 1 (zlf pc 1 (o_aload 0 2)) (zlf pc 2 (o_getf 6 1 5)))) (znd pc 6 (znd pc 5 (zlf pc 5 (o_const 2 6)) (zlf pc 6 (o_iald 7))) (znd pc 7 (zlf pc 7 (o_ifle 14 10)) (zlf pc 10 (o_const 0 11))))) (znd pc 18 (znd pc 14 (znd pc 11 (zlf pc 11 (o_goto 15)) (zlf pc 14 (o_const 1 15))) (znd pc 15 (zlf pc 15 (o_putf 6 0 18)) (zlf pc 18 (o_aload 0 19)))) (znd pc 22 (znd pc 19 (zlf pc 19 (o_getf 6 0 22)) (zlf pc 22 (o_ifle 27 25))) (znd pc 25 (zlf pc 25 (o_const 0 26)) (zlf pc 26 (o_iret)))))) (znd pc 37 (znd pc 31 (znd pc 27 (zlf pc 27 (o_aload 0 28)) (znd pc 28 (zlf pc 28 (o_callv 6 39 1 2 0 31)) (zlf pc 31 (o_aload 0 32)))) (znd pc 35 (znd pc 32 (zlf pc 32 (o_getf 6 1 35)) (zlf pc 35 (o_const 2 36))) (znd pc 36 (zlf pc 36 (o_dup2 37)) (zlf pc 37 (o_iald 38))))) (znd pc 41 (znd pc 39 (znd pc 38 (zlf pc 38 (o_const 1 39)) (zlf pc 39 (o_isub 40))) (znd pc 40 (zlf pc 40 (o_iast 41)) (zlf pc 41 (o_aload 0 42)))) (znd pc 45 (znd pc 42 (zlf pc 42 (o_getf 6 1 45)) (zlf pc 45 (o_const 2 46))) (znd pc 46 (zlf pc 46 (o_iald 47)) (zlf pc 47 (o_iret))))))
/-- RepairShopModel.hits(III)I -/
def zc_58 (pc : Nat) : zOp := znd pc 47 (znd pc 20 (znd pc 9 (znd pc 2 (znd pc 0 (zlf pc 0 (o_aload 0 1)) (znd pc 1 (zlf pc 1 (o_iload 1 2)) (zlf pc 2 (o_iload 2 3)))) (znd pc 4 (znd pc 3 (zlf pc 3 (o_const 0 4)) (zlf pc 4 (o_callv 6 44 4 4 1 7))) (znd pc 7 (zlf pc 7 (o_istore 4 9)) (zlf pc 9 (o_iload 3 10))))) (znd pc 13 (znd pc 11 (znd pc 10 (zlf pc 10 (o_aload 0 11)) (zlf pc 11 (o_iload 1 12))) (znd pc 12 (zlf pc 12 (o_iload 2 13)) (zlf pc 13 (o_const 1 14)))) (znd pc 17 (znd pc 14 (zlf pc 14 (o_callv 6 44 4 4 1 17)) (zlf pc 17 (o_iadd 18))) (znd pc 18 (zlf pc 18 (o_istore 5 20)) (zlf pc 20 (o_const (-1) 21)))))) (znd pc 33 (znd pc 26 (znd pc 23 (znd pc 21 (zlf pc 21 (o_istore 6 23)) (zlf pc 23 (o_const 0 24))) (znd pc 24 (zlf pc 24 (o_istore 7 26)) (zlf pc 26 (o_iload 7 28)))) (znd pc 29 (znd pc 28 (zlf pc 28 (o_aload 0 29)) (zlf pc 29 (o_getf 6 1 32))) (znd pc 32 (zlf pc 32 (o_const 2 33)) (zlf pc 33 (o_iald 34))))) (znd pc 40 (znd pc 37 (znd pc 34 (zlf pc 34 (o_cge 111 37)) (zlf pc 37 (o_aload 0 38))) (znd pc 38 (zlf pc 38 (o_iload 7 40)) (zlf pc 40 (o_const 1 41)))) (znd pc 44 (znd pc 41 (zlf pc 41 (o_callv 6 46 3 3 1 44)) (zlf pc 44 (o_aload 0 45))) (znd pc 45 (zlf pc 45 (o_iload 7 47)) (zlf pc 47 (o_const 2 48))))))) (znd pc 77 (znd pc 61 (znd pc 54 (znd pc 51 (znd pc 48 (zlf pc 48 (o_callv 6 46 3 3 1 51)) (zlf pc 51 (o_iadd 52))) (znd pc 52 (zlf pc 52 (o_istore 8 54)) (zlf pc 54 (o_aload 0 55)))) (znd pc 57 (znd pc 55 (zlf pc 55 (o_iload 7 57)) (zlf pc 57 (o_const 0 58))) (znd pc 58 (zlf pc 58 (o_callv 6 46 3 3 1 61)) (zlf pc 61 (o_iload 4 63))))) (znd pc 69 (znd pc 66 (znd pc 63 (zlf pc 63 (o_cne 88 66)) (zlf pc 66 (o_iload 3 67))) (znd pc 67 (zlf pc 67 (o_iload 8 69)) (zlf pc 69 (o_cge 88 72)))) (znd pc 74 (znd pc 72 (zlf pc 72 (o_iload 5 74)) (zlf pc 74 (o_aload 0 75))) (znd pc 75 (zlf pc 75 (o_iload 7 77)) (zlf pc 77 (o_const 1 78)))))) (znd pc 93 (znd pc 85 (znd pc 81 (znd pc 78 (zlf pc 78 (o_callv 6 46 3 3 1 81)) (zlf pc 81 (o_cle 88 84))) (znd pc 84 (zlf pc 84 (o_const 1 85)) (zlf pc 85 (o_goto 89)))) (znd pc 89 (znd pc 88 (zlf pc 88 (o_const 0 89)) (zlf pc 89 (o_istore 9 91))) (znd pc 91 (zlf pc 91 (o_iload 9 93)) (zlf pc 93 (o_ifeq 101 96))))) (znd pc 103 (znd pc 98 (znd pc 96 (zlf pc 96 (o_iload 8 98)) (zlf pc 98 (o_goto 103))) (znd pc 101 (zlf pc 101 (o_iload 6 103)) (zlf pc 103 (o_istore 6 105)))) (znd pc 108 (znd pc 105 (zlf pc 105 (o_iinc 7 1 108)) (zlf pc 108 (o_goto 26))) (znd pc 111 (zlf pc 111 (o_iload 6 113)) (zlf pc 113 (o_iret)))))))
/-- RepairShopModel.free(III)I -/
def zc_59 (pc : Nat) : zOp := znd pc 16 (znd pc 5 (znd pc 1 (znd pc 0 (zlf pc 0 (o_iload 3 1)) (zlf pc 1 (o_istore 4 3))) (znd pc 3 (zlf pc 3 (o_aload 0 4)) (znd pc 4 (zlf pc 4 (o_iload 1 5)) (zlf pc 5 (o_iload 2 6))))) (znd pc 11 (znd pc 6 (zlf pc 6 (o_iload 4 8)) (znd pc 8 (zlf pc 8 (o_callv 6 58 4 10 1 11)) (zlf pc 11 (o_istore 5 13)))) (znd pc 13 (zlf pc 13 (o_iload 5 15)) (znd pc 15 (zlf pc 15 (o_const (-1) 16)) (zlf pc 16 (o_ceq 36 19)))))) (znd pc 25 (znd pc 21 (znd pc 19 (zlf pc 19 (o_iload 5 21)) (zlf pc 21 (o_istore 4 23))) (znd pc 23 (zlf pc 23 (o_aload 0 24)) (znd pc 24 (zlf pc 24 (o_iload 1 25)) (zlf pc 25 (o_iload 2 26))))) (znd pc 31 (znd pc 26 (zlf pc 26 (o_iload 4 28)) (znd pc 28 (zlf pc 28 (o_callv 6 58 4 10 1 31)) (zlf pc 31 (o_istore 5 33)))) (znd pc 33 (zlf pc 33 (o_goto 13)) (znd pc 36 (zlf pc 36 (o_iload 4 38)) (zlf pc 38 (o_iret))))))
/-- RepairShopModel.endOf(III)I -/
def zc_60 (pc : Nat) : zOp := znd pc 7 (znd pc 2 (znd pc 0 (zlf pc 0 (o_aload 0 1)) (znd pc 1 (zlf pc 1 (o_iload 1 2)) (zlf pc 2 (o_iload 2 3)))) (znd pc 3 (zlf pc 3 (o_iload 3 4)) (znd pc 4 (zlf pc 4 (o_callv 6 44 4 4 1 7)) (zlf pc 7 (o_aload 0 8))))) (znd pc 10 (znd pc 8 (zlf pc 8 (o_iload 1 9)) (znd pc 9 (zlf pc 9 (o_iload 2 10)) (zlf pc 10 (o_const 1 11)))) (znd pc 11 (zlf pc 11 (o_callv 6 44 4 4 1 14)) (znd pc 14 (zlf pc 14 (o_iadd 15)) (zlf pc 15 (o_iret)))))
/-- RepairShopModel.nextOf(I)I -/
def zc_61 (pc : Nat) : zOp := znd pc 12 (znd pc 3 (znd pc 1 (znd pc 0 (zlf pc 0 (o_const 0 1)) (zlf pc 1 (o_istore 2 2))) (znd pc 2 (zlf pc 2 (o_iload 2 3)) (zlf pc 3 (o_aload 0 4)))) (znd pc 5 (znd pc 4 (zlf pc 4 (o_iload 1 5)) (zlf pc 5 (o_const 2 6))) (znd pc 6 (zlf pc 6 (o_callv 6 42 3 3 1 9)) (znd pc 9 (zlf pc 9 (o_cge 29 12)) (zlf pc 12 (o_aload 0 13)))))) (znd pc 19 (znd pc 14 (znd pc 13 (zlf pc 13 (o_iload 1 14)) (zlf pc 14 (o_iload 2 15))) (znd pc 15 (zlf pc 15 (o_const 3 16)) (znd pc 16 (zlf pc 16 (o_callv 6 44 4 4 1 19)) (zlf pc 19 (o_const (-1) 20))))) (znd pc 23 (znd pc 20 (zlf pc 20 (o_ceq 29 23)) (zlf pc 23 (o_iinc 2 1 26))) (znd pc 26 (zlf pc 26 (o_goto 2)) (znd pc 29 (zlf pc 29 (o_iload 2 30)) (zlf pc 30 (o_iret))))))
/-- RepairShopModel.earliest(III)I -/
def zc_62 (pc : Nat) : zOp := znd pc 70 (znd pc 30 (znd pc 12 (znd pc 7 (znd pc 1 (znd pc 0 (zlf pc 0 (o_iload 3 1)) (zlf pc 1 (o_istore 4 3))) (znd pc 3 (zlf pc 3 (o_iload 2 4)) (znd pc 4 (zlf pc 4 (o_ifle 32 7)) (zlf pc 7 (o_aload 0 8))))) (znd pc 9 (znd pc 8 (zlf pc 8 (o_iload 1 9)) (zlf pc 9 (o_iload 2 10))) (znd pc 10 (zlf pc 10 (o_const 1 11)) (znd pc 11 (zlf pc 11 (o_isub 12)) (zlf pc 12 (o_const 3 13)))))) (znd pc 22 (znd pc 16 (znd pc 13 (zlf pc 13 (o_callv 6 60 4 4 1 16)) (zlf pc 16 (o_iload 4 18))) (znd pc 18 (zlf pc 18 (o_cle 32 21)) (znd pc 21 (zlf pc 21 (o_aload 0 22)) (zlf pc 22 (o_iload 1 23))))) (znd pc 25 (znd pc 23 (zlf pc 23 (o_iload 2 24)) (znd pc 24 (zlf pc 24 (o_const 1 25)) (zlf pc 25 (o_isub 26)))) (znd pc 26 (zlf pc 26 (o_const 3 27)) (znd pc 27 (zlf pc 27 (o_callv 6 60 4 4 1 30)) (zlf pc 30 (o_istore 4 32))))))) (znd pc 49 (znd pc 38 (znd pc 33 (znd pc 32 (zlf pc 32 (o_const 0 33)) (zlf pc 33 (o_istore 5 35))) (znd pc 35 (zlf pc 35 (o_iload 5 37)) (znd pc 37 (zlf pc 37 (o_aload 0 38)) (zlf pc 38 (o_getf 6 1 41))))) (znd pc 43 (znd pc 41 (zlf pc 41 (o_const 1 42)) (znd pc 42 (zlf pc 42 (o_iald 43)) (zlf pc 43 (o_cge 147 46)))) (znd pc 46 (zlf pc 46 (o_const 0 47)) (znd pc 47 (zlf pc 47 (o_istore 6 49)) (zlf pc 49 (o_iload 6 51)))))) (znd pc 58 (znd pc 52 (znd pc 51 (zlf pc 51 (o_aload 0 52)) (zlf pc 52 (o_iload 5 54))) (znd pc 54 (zlf pc 54 (o_const 2 55)) (znd pc 55 (zlf pc 55 (o_callv 6 42 3 3 1 58)) (zlf pc 58 (o_cge 141 61))))) (znd pc 64 (znd pc 61 (zlf pc 61 (o_aload 0 62)) (znd pc 62 (zlf pc 62 (o_iload 5 64)) (zlf pc 64 (o_iload 6 66)))) (znd pc 66 (zlf pc 66 (o_const 0 67)) (znd pc 67 (zlf pc 67 (o_callv 6 44 4 4 1 70)) (zlf pc 70 (o_aload 0 71)))))))) (znd pc 108 (znd pc 86 (znd pc 77 (znd pc 72 (znd pc 71 (zlf pc 71 (o_iload 1 72)) (zlf pc 72 (o_iload 2 73))) (znd pc 73 (zlf pc 73 (o_const 0 74)) (znd pc 74 (zlf pc 74 (o_callv 6 44 4 4 1 77)) (zlf pc 77 (o_cne 97 80))))) (znd pc 81 (znd pc 80 (zlf pc 80 (o_aload 0 81)) (zlf pc 81 (o_iload 5 83))) (znd pc 83 (zlf pc 83 (o_iload 6 85)) (znd pc 85 (zlf pc 85 (o_const 3 86)) (zlf pc 86 (o_callv 6 44 4 4 1 89)))))) (znd pc 97 (znd pc 90 (znd pc 89 (zlf pc 89 (o_const (-1) 90)) (zlf pc 90 (o_ceq 97 93))) (znd pc 93 (zlf pc 93 (o_const 1 94)) (znd pc 94 (zlf pc 94 (o_goto 98)) (zlf pc 97 (o_const 0 98))))) (znd pc 102 (znd pc 98 (zlf pc 98 (o_istore 7 100)) (znd pc 100 (zlf pc 100 (o_iload 7 102)) (zlf pc 102 (o_ifeq 131 105)))) (znd pc 105 (zlf pc 105 (o_aload 0 106)) (znd pc 106 (zlf pc 106 (o_iload 5 108)) (zlf pc 108 (o_iload 6 110))))))) (znd pc 131 (znd pc 119 (znd pc 111 (znd pc 110 (zlf pc 110 (o_const 3 111)) (zlf pc 111 (o_callv 6 60 4 4 1 114))) (znd pc 114 (zlf pc 114 (o_iload 4 116)) (znd pc 116 (zlf pc 116 (o_cle 131 119)) (zlf pc 119 (o_aload 0 120))))) (znd pc 124 (znd pc 120 (zlf pc 120 (o_iload 5 122)) (znd pc 122 (zlf pc 122 (o_iload 6 124)) (zlf pc 124 (o_const 3 125)))) (znd pc 125 (zlf pc 125 (o_callv 6 60 4 4 1 128)) (znd pc 128 (zlf pc 128 (o_goto 133)) (zlf pc 131 (o_iload 4 133)))))) (znd pc 144 (znd pc 135 (znd pc 133 (zlf pc 133 (o_istore 4 135)) (zlf pc 135 (o_iinc 6 1 138))) (znd pc 138 (zlf pc 138 (o_goto 49)) (znd pc 141 (zlf pc 141 (o_iinc 5 1 144)) (zlf pc 144 (o_goto 35))))) (znd pc 149 (znd pc 147 (zlf pc 147 (o_aload 0 148)) (znd pc 148 (zlf pc 148 (o_iload 1 149)) (zlf pc 149 (o_iload 2 150)))) (znd pc 150 (zlf pc 150 (o_iload 4 152)) (znd pc 152 (zlf pc 152 (o_callv 6 59 4 6 1 155)) (zlf pc 155 (o_iret))))))))
/-- RepairShopModel.ranked(III)I -/
def zc_63 (pc : Nat) : zOp := znd pc 42 (znd pc 31 (znd pc 28 (znd pc 0 (zlf pc 0 (o_iload 3 1)) (znd pc 1 (zlf pc 1 (o_sw [(0, 28), (1, 36), (2, 43)] 51)) (zlf pc 28 (o_aload 0 29)))) (znd pc 29 (zlf pc 29 (o_iload 1 30)) (znd pc 30 (zlf pc 30 (o_iload 2 31)) (zlf pc 31 (o_const 1 32))))) (znd pc 36 (znd pc 32 (zlf pc 32 (o_callv 6 44 4 4 1 35)) (znd pc 35 (zlf pc 35 (o_iret)) (zlf pc 36 (o_aload 0 37)))) (znd pc 38 (znd pc 37 (zlf pc 37 (o_iload 1 38)) (zlf pc 38 (o_const 1 39))) (znd pc 39 (zlf pc 39 (o_callv 6 42 3 3 1 42)) (zlf pc 42 (o_iret)))))) (znd pc 50 (znd pc 45 (znd pc 43 (zlf pc 43 (o_aload 0 44)) (znd pc 44 (zlf pc 44 (o_iload 1 45)) (zlf pc 45 (o_const 0 46)))) (znd pc 46 (zlf pc 46 (o_callv 6 42 3 3 1 49)) (znd pc 49 (zlf pc 49 (o_ineg 50)) (zlf pc 50 (o_iret))))) (znd pc 53 (znd pc 51 (zlf pc 51 (o_aload 0 52)) (znd pc 52 (zlf pc 52 (o_iload 1 53)) (zlf pc 53 (o_const 2 54)))) (znd pc 57 (znd pc 54 (zlf pc 54 (o_callv 6 42 3 3 1 57)) (zlf pc 57 (o_iload 2 58))) (znd pc 58 (zlf pc 58 (o_isub 59)) (zlf pc 59 (o_iret))))))
/-- RepairShopModel.fill(II)V -/
def zc_64 (pc : Nat) : zOp := znd pc 78 (znd pc 35 (znd pc 13 (znd pc 4 (znd pc 1 (znd pc 0 (zlf pc 0 (o_const 0 1)) (zlf pc 1 (o_istore 3 2))) (znd pc 2 (zlf pc 2 (o_iload 3 3)) (znd pc 3 (zlf pc 3 (o_const (-1) 4)) (zlf pc 4 (o_ceq 176 7))))) (znd pc 9 (znd pc 7 (zlf pc 7 (o_const (-1) 8)) (znd pc 8 (zlf pc 8 (o_istore 3 9)) (zlf pc 9 (o_const 0 10)))) (znd pc 10 (zlf pc 10 (o_istore 4 12)) (znd pc 12 (zlf pc 12 (o_const 0 13)) (zlf pc 13 (o_istore 5 15)))))) (znd pc 24 (znd pc 18 (znd pc 15 (zlf pc 15 (o_const 0 16)) (znd pc 16 (zlf pc 16 (o_istore 6 18)) (zlf pc 18 (o_iload 6 20)))) (znd pc 20 (zlf pc 20 (o_aload 0 21)) (znd pc 21 (zlf pc 21 (o_getf 6 1 24)) (zlf pc 24 (o_const 1 25))))) (znd pc 29 (znd pc 25 (zlf pc 25 (o_iald 26)) (znd pc 26 (zlf pc 26 (o_cge 150 29)) (zlf pc 29 (o_aload 0 30)))) (znd pc 30 (zlf pc 30 (o_iload 6 32)) (znd pc 32 (zlf pc 32 (o_callv 6 61 2 3 1 35)) (zlf pc 35 (o_istore 7 37))))))) (znd pc 55 (znd pc 43 (znd pc 39 (znd pc 37 (zlf pc 37 (o_iload 7 39)) (zlf pc 39 (o_aload 0 40))) (znd pc 40 (zlf pc 40 (o_iload 6 42)) (znd pc 42 (zlf pc 42 (o_const 2 43)) (zlf pc 43 (o_callv 6 42 3 3 1 46))))) (znd pc 50 (znd pc 46 (zlf pc 46 (o_cge 144 49)) (znd pc 49 (zlf pc 49 (o_aload 0 50)) (zlf pc 50 (o_iload 6 52)))) (znd pc 52 (zlf pc 52 (o_iload 7 54)) (znd pc 54 (zlf pc 54 (o_iload 2 55)) (zlf pc 55 (o_callv 6 62 4 8 1 58)))))) (znd pc 66 (znd pc 61 (znd pc 58 (zlf pc 58 (o_istore 8 60)) (znd pc 60 (zlf pc 60 (o_aload 0 61)) (zlf pc 61 (o_iload 6 63)))) (znd pc 63 (zlf pc 63 (o_iload 7 65)) (znd pc 65 (zlf pc 65 (o_iload 1 66)) (zlf pc 66 (o_callv 6 63 4 4 1 69))))) (znd pc 72 (znd pc 69 (zlf pc 69 (o_istore 9 71)) (znd pc 71 (zlf pc 71 (o_iload 3 72)) (zlf pc 72 (o_const (-1) 73)))) (znd pc 73 (zlf pc 73 (o_ceq 97 76)) (znd pc 76 (zlf pc 76 (o_iload 8 78)) (zlf pc 78 (o_iload 4 80)))))))) (znd pc 128 (znd pc 102 (znd pc 90 (znd pc 83 (znd pc 80 (zlf pc 80 (o_clt 97 83)) (zlf pc 83 (o_iload 8 85))) (znd pc 85 (zlf pc 85 (o_iload 4 87)) (znd pc 87 (zlf pc 87 (o_cne 101 90)) (zlf pc 90 (o_iload 9 92))))) (znd pc 97 (znd pc 92 (zlf pc 92 (o_iload 5 94)) (znd pc 94 (zlf pc 94 (o_cge 101 97)) (zlf pc 97 (o_const 1 98)))) (znd pc 98 (zlf pc 98 (o_goto 102)) (znd pc 101 (zlf pc 101 (o_const 0 102)) (zlf pc 102 (o_istore 10 104)))))) (znd pc 115 (znd pc 109 (znd pc 104 (zlf pc 104 (o_iload 10 106)) (znd pc 106 (zlf pc 106 (o_ifeq 114 109)) (zlf pc 109 (o_iload 6 111)))) (znd pc 111 (zlf pc 111 (o_goto 115)) (znd pc 114 (zlf pc 114 (o_iload 3 115)) (zlf pc 115 (o_istore 3 116))))) (znd pc 121 (znd pc 116 (zlf pc 116 (o_iload 10 118)) (znd pc 118 (zlf pc 118 (o_ifeq 126 121)) (zlf pc 121 (o_iload 8 123)))) (znd pc 123 (zlf pc 123 (o_goto 128)) (znd pc 126 (zlf pc 126 (o_iload 4 128)) (zlf pc 128 (o_istore 4 130))))))) (znd pc 155 (znd pc 142 (znd pc 135 (znd pc 130 (zlf pc 130 (o_iload 10 132)) (znd pc 132 (zlf pc 132 (o_ifeq 140 135)) (zlf pc 135 (o_iload 9 137)))) (znd pc 137 (zlf pc 137 (o_goto 142)) (znd pc 140 (zlf pc 140 (o_iload 5 142)) (zlf pc 142 (o_istore 5 144))))) (znd pc 150 (znd pc 144 (zlf pc 144 (o_iinc 6 1 147)) (znd pc 147 (zlf pc 147 (o_goto 18)) (zlf pc 150 (o_iload 3 151)))) (znd pc 151 (zlf pc 151 (o_const (-1) 152)) (znd pc 152 (zlf pc 152 (o_ceq 173 155)) (zlf pc 155 (o_aload 0 156)))))) (znd pc 165 (znd pc 160 (znd pc 156 (zlf pc 156 (o_getf 6 1 159)) (znd pc 159 (zlf pc 159 (o_iload 3 160)) (zlf pc 160 (o_aload 0 161)))) (znd pc 161 (zlf pc 161 (o_iload 3 162)) (znd pc 162 (zlf pc 162 (o_callv 6 61 2 3 1 165)) (zlf pc 165 (o_call 43 2 2 1 168))))) (znd pc 170 (znd pc 168 (zlf pc 168 (o_const 3 169)) (znd pc 169 (zlf pc 169 (o_iadd 170)) (zlf pc 170 (o_iload 4 172)))) (znd pc 172 (zlf pc 172 (o_iast 173)) (znd pc 173 (zlf pc 173 (o_goto 2)) (zlf pc 176 (o_ret))))))))
/-- RepairShopModel.latenessOf(II)I -/
def zc_65 (pc : Nat) : zOp := znd pc 19 (znd pc 8 (znd pc 2 (znd pc 0 (zlf pc 0 (o_aload 0 1)) (znd pc 1 (zlf pc 1 (o_iload 1 2)) (zlf pc 2 (o_const 2 3)))) (znd pc 6 (znd pc 3 (zlf pc 3 (o_callv 6 42 3 3 1 6)) (zlf pc 6 (o_istore 3 7))) (znd pc 7 (zlf pc 7 (o_iload 3 8)) (zlf pc 8 (o_ifne 15 11))))) (znd pc 15 (znd pc 11 (zlf pc 11 (o_const 0 12)) (znd pc 12 (zlf pc 12 (o_goto 31)) (zlf pc 15 (o_aload 0 16)))) (znd pc 17 (znd pc 16 (zlf pc 16 (o_iload 1 17)) (zlf pc 17 (o_iload 3 18))) (znd pc 18 (zlf pc 18 (o_const 1 19)) (zlf pc 19 (o_isub 20)))))) (znd pc 30 (znd pc 24 (znd pc 20 (zlf pc 20 (o_iload 2 21)) (znd pc 21 (zlf pc 21 (o_callv 6 60 4 4 1 24)) (zlf pc 24 (o_aload 0 25)))) (znd pc 26 (znd pc 25 (zlf pc 25 (o_iload 1 26)) (zlf pc 26 (o_const 1 27))) (znd pc 27 (zlf pc 27 (o_callv 6 42 3 3 1 30)) (zlf pc 30 (o_isub 31))))) (znd pc 35 (znd pc 31 (zlf pc 31 (o_istore 4 33)) (znd pc 33 (zlf pc 33 (o_iload 4 35)) (zlf pc 35 (o_ifle 43 38)))) (znd pc 40 (znd pc 38 (zlf pc 38 (o_iload 4 40)) (zlf pc 40 (o_goto 44))) (znd pc 43 (zlf pc 43 (o_const 0 44)) (zlf pc 44 (o_iret))))))
/-- RepairShopModel.lateness(I)I -/
def zc_66 (pc : Nat) : zOp := znd pc 16 (znd pc 5 (znd pc 2 (znd pc 0 (zlf pc 0 (o_const 0 1)) (znd pc 1 (zlf pc 1 (o_istore 2 2)) (zlf pc 2 (o_const 0 3)))) (znd pc 3 (zlf pc 3 (o_istore 3 4)) (znd pc 4 (zlf pc 4 (o_iload 3 5)) (zlf pc 5 (o_aload 0 6))))) (znd pc 10 (znd pc 6 (zlf pc 6 (o_getf 6 1 9)) (znd pc 9 (zlf pc 9 (o_const 1 10)) (zlf pc 10 (o_iald 11)))) (znd pc 14 (znd pc 11 (zlf pc 11 (o_cge 36 14)) (zlf pc 14 (o_iload 2 15))) (znd pc 15 (zlf pc 15 (o_aload 0 16)) (zlf pc 16 (o_iload 3 17)))))) (znd pc 24 (znd pc 21 (znd pc 17 (zlf pc 17 (o_const 0 18)) (znd pc 18 (zlf pc 18 (o_callv 6 42 3 3 1 21)) (zlf pc 21 (o_aload 0 22)))) (znd pc 22 (zlf pc 22 (o_iload 3 23)) (znd pc 23 (zlf pc 23 (o_iload 1 24)) (zlf pc 24 (o_callv 6 65 3 5 1 27))))) (znd pc 29 (znd pc 27 (zlf pc 27 (o_imul 28)) (znd pc 28 (zlf pc 28 (o_iadd 29)) (zlf pc 29 (o_istore 2 30)))) (znd pc 33 (znd pc 30 (zlf pc 30 (o_iinc 3 1 33)) (zlf pc 33 (o_goto 4))) (znd pc 36 (zlf pc 36 (o_iload 2 37)) (zlf pc 37 (o_iret))))))
/-- RepairShopModel.copyStarts(II)I -/
def zc_67 (pc : Nat) : zOp := znd pc 44 (znd pc 19 (znd pc 7 (znd pc 2 (znd pc 0 (zlf pc 0 (o_const 0 1)) (znd pc 1 (zlf pc 1 (o_istore 3 2)) (zlf pc 2 (o_const 0 3)))) (znd pc 3 (zlf pc 3 (o_istore 4 5)) (znd pc 5 (zlf pc 5 (o_iload 4 7)) (zlf pc 7 (o_aload 0 8))))) (znd pc 12 (znd pc 8 (zlf pc 8 (o_getf 6 1 11)) (znd pc 11 (zlf pc 11 (o_const 1 12)) (zlf pc 12 (o_iald 13)))) (znd pc 16 (znd pc 13 (zlf pc 13 (o_cge 95 16)) (zlf pc 16 (o_const 0 17))) (znd pc 17 (zlf pc 17 (o_istore 5 19)) (zlf pc 19 (o_iload 5 21)))))) (znd pc 32 (znd pc 24 (znd pc 21 (zlf pc 21 (o_aload 0 22)) (znd pc 22 (zlf pc 22 (o_iload 4 24)) (zlf pc 24 (o_const 2 25)))) (znd pc 28 (znd pc 25 (zlf pc 25 (o_callv 6 42 3 3 1 28)) (zlf pc 28 (o_cge 89 31))) (znd pc 31 (zlf pc 31 (o_iload 3 32)) (zlf pc 32 (o_aload 0 33))))) (znd pc 37 (znd pc 33 (zlf pc 33 (o_iload 4 35)) (znd pc 35 (zlf pc 35 (o_iload 5 37)) (zlf pc 37 (o_iload 1 38)))) (znd pc 41 (znd pc 38 (zlf pc 38 (o_callv 6 44 4 4 1 41)) (zlf pc 41 (o_aload 0 42))) (znd pc 42 (zlf pc 42 (o_iload 4 44)) (zlf pc 44 (o_iload 5 46))))))) (znd pc 68 (znd pc 57 (znd pc 50 (znd pc 46 (zlf pc 46 (o_iload 2 47)) (znd pc 47 (zlf pc 47 (o_callv 6 44 4 4 1 50)) (zlf pc 50 (o_cne 57 53)))) (znd pc 53 (zlf pc 53 (o_const 0 54)) (znd pc 54 (zlf pc 54 (o_goto 58)) (zlf pc 57 (o_const 1 58))))) (znd pc 60 (znd pc 58 (zlf pc 58 (o_iadd 59)) (znd pc 59 (zlf pc 59 (o_istore 3 60)) (zlf pc 60 (o_aload 0 61)))) (znd pc 64 (znd pc 61 (zlf pc 61 (o_getf 6 1 64)) (zlf pc 64 (o_iload 4 66))) (znd pc 66 (zlf pc 66 (o_iload 5 68)) (zlf pc 68 (o_call 43 2 2 1 71)))))) (znd pc 79 (znd pc 73 (znd pc 71 (zlf pc 71 (o_iload 2 72)) (znd pc 72 (zlf pc 72 (o_iadd 73)) (zlf pc 73 (o_aload 0 74)))) (znd pc 76 (znd pc 74 (zlf pc 74 (o_iload 4 76)) (zlf pc 76 (o_iload 5 78))) (znd pc 78 (zlf pc 78 (o_iload 1 79)) (zlf pc 79 (o_callv 6 44 4 4 1 82))))) (znd pc 86 (znd pc 82 (zlf pc 82 (o_iast 83)) (znd pc 83 (zlf pc 83 (o_iinc 5 1 86)) (zlf pc 86 (o_goto 19)))) (znd pc 92 (znd pc 89 (zlf pc 89 (o_iinc 4 1 92)) (zlf pc 92 (o_goto 5))) (znd pc 95 (zlf pc 95 (o_iload 3 96)) (zlf pc 96 (o_iret)))))))
/-- RepairShopModel.makePlan(I)V -/
def zc_68 (pc : Nat) : zOp := znd pc 33 (znd pc 14 (znd pc 4 (znd pc 1 (znd pc 0 (zlf pc 0 (o_const 0 1)) (zlf pc 1 (o_istore 2 2))) (znd pc 2 (zlf pc 2 (o_iload 2 3)) (znd pc 3 (zlf pc 3 (o_aload 0 4)) (zlf pc 4 (o_getf 6 1 7))))) (znd pc 9 (znd pc 7 (zlf pc 7 (o_const 1 8)) (znd pc 8 (zlf pc 8 (o_iald 9)) (zlf pc 9 (o_cge 49 12)))) (znd pc 12 (zlf pc 12 (o_const 0 13)) (znd pc 13 (zlf pc 13 (o_istore 3 14)) (zlf pc 14 (o_iload 3 15)))))) (znd pc 21 (znd pc 16 (znd pc 15 (zlf pc 15 (o_aload 0 16)) (zlf pc 16 (o_iload 2 17))) (znd pc 17 (zlf pc 17 (o_const 2 18)) (znd pc 18 (zlf pc 18 (o_callv 6 42 3 3 1 21)) (zlf pc 21 (o_cge 43 24))))) (znd pc 28 (znd pc 24 (zlf pc 24 (o_aload 0 25)) (znd pc 25 (zlf pc 25 (o_getf 6 1 28)) (zlf pc 28 (o_iload 2 29)))) (znd pc 29 (zlf pc 29 (o_iload 3 30)) (znd pc 30 (zlf pc 30 (o_call 43 2 2 1 33)) (zlf pc 33 (o_const 3 34))))))) (znd pc 52 (znd pc 40 (znd pc 35 (znd pc 34 (zlf pc 34 (o_iadd 35)) (zlf pc 35 (o_const (-1) 36))) (znd pc 36 (zlf pc 36 (o_iast 37)) (znd pc 37 (zlf pc 37 (o_iinc 3 1 40)) (zlf pc 40 (o_goto 14))))) (znd pc 49 (znd pc 43 (zlf pc 43 (o_iinc 2 1 46)) (znd pc 46 (zlf pc 46 (o_goto 2)) (zlf pc 49 (o_aload 0 50)))) (znd pc 50 (zlf pc 50 (o_iload 1 51)) (znd pc 51 (zlf pc 51 (o_const 0 52)) (zlf pc 52 (o_callv 6 64 3 11 0 55)))))) (znd pc 61 (znd pc 56 (znd pc 55 (zlf pc 55 (o_aload 0 56)) (zlf pc 56 (o_const 3 57))) (znd pc 57 (zlf pc 57 (o_const 2 58)) (znd pc 58 (zlf pc 58 (o_callv 6 67 3 6 1 61)) (zlf pc 61 (o_pop 62))))) (znd pc 66 (znd pc 62 (zlf pc 62 (o_aload 0 63)) (znd pc 63 (zlf pc 63 (o_getf 6 1 66)) (zlf pc 66 (o_const 3 67)))) (znd pc 67 (zlf pc 67 (o_const 1 68)) (znd pc 68 (zlf pc 68 (o_iast 69)) (zlf pc 69 (o_ret)))))))
/-- RepairShopModel.isRule(I)Z -/
def zc_69 (pc : Nat) : zOp := znd pc 1 (znd pc 0 (zlf pc 0 (o_iload 0 1)) (zlf pc 1 (o_const 0 2))) (znd pc 2 (zlf pc 2 (o_const 3 3)) (znd pc 3 (zlf pc 3 (o_call 38 3 3 1 6)) (zlf pc 6 (o_zret))))
/-- RepairShopModel.plan(I)I -/
def zc_70 (pc : Nat) : zOp := znd pc 20 (znd pc 8 (znd pc 1 (znd pc 0 (zlf pc 0 (o_aload 0 1)) (zlf pc 1 (o_iload 1 2))) (znd pc 2 (zlf pc 2 (o_call 69 1 1 1 5)) (znd pc 5 (zlf pc 5 (o_ifeq 12 8)) (zlf pc 8 (o_const 0 9))))) (znd pc 13 (znd pc 9 (zlf pc 9 (o_goto 13)) (znd pc 12 (zlf pc 12 (o_const 1 13)) (zlf pc 13 (o_putf 6 0 16)))) (znd pc 16 (zlf pc 16 (o_aload 0 17)) (znd pc 17 (zlf pc 17 (o_getf 6 0 20)) (zlf pc 20 (o_ifle 25 23)))))) (znd pc 29 (znd pc 24 (znd pc 23 (zlf pc 23 (o_const 0 24)) (zlf pc 24 (o_iret))) (znd pc 25 (zlf pc 25 (o_aload 0 26)) (znd pc 26 (zlf pc 26 (o_callv 6 39 1 2 0 29)) (zlf pc 29 (o_aload 0 30))))) (znd pc 34 (znd pc 30 (zlf pc 30 (o_iload 1 31)) (znd pc 31 (zlf pc 31 (o_callv 6 68 2 4 0 34)) (zlf pc 34 (o_aload 0 35)))) (znd pc 35 (zlf pc 35 (o_const 3 36)) (znd pc 36 (zlf pc 36 (o_callv 6 66 2 4 1 39)) (zlf pc 39 (o_iret))))))
/-- RepairShopModel.shifted(II)I -/
def zc_71 (pc : Nat) : zOp := znd pc 74 (znd pc 34 (znd pc 14 (znd pc 4 (znd pc 1 (znd pc 0 (zlf pc 0 (o_aload 0 1)) (zlf pc 1 (o_iload 1 2))) (znd pc 2 (zlf pc 2 (o_iload 2 3)) (znd pc 3 (zlf pc 3 (o_const 2 4)) (zlf pc 4 (o_callv 6 44 4 4 1 7))))) (znd pc 9 (znd pc 7 (zlf pc 7 (o_istore 3 8)) (znd pc 8 (zlf pc 8 (o_const 0 9)) (zlf pc 9 (o_istore 4 11)))) (znd pc 11 (zlf pc 11 (o_iload 4 13)) (znd pc 13 (zlf pc 13 (o_aload 0 14)) (zlf pc 14 (o_getf 6 1 17)))))) (znd pc 23 (znd pc 18 (znd pc 17 (zlf pc 17 (o_const 1 18)) (zlf pc 18 (o_iald 19))) (znd pc 19 (zlf pc 19 (o_cge 156 22)) (znd pc 22 (zlf pc 22 (o_const 0 23)) (zlf pc 23 (o_istore 5 25))))) (znd pc 28 (znd pc 25 (zlf pc 25 (o_iload 5 27)) (znd pc 27 (zlf pc 27 (o_aload 0 28)) (zlf pc 28 (o_iload 4 30)))) (znd pc 30 (zlf pc 30 (o_const 2 31)) (znd pc 31 (zlf pc 31 (o_callv 6 42 3 3 1 34)) (zlf pc 34 (o_cge 150 37))))))) (znd pc 55 (znd pc 45 (znd pc 39 (znd pc 37 (zlf pc 37 (o_iload 4 39)) (zlf pc 39 (o_iload 1 40))) (znd pc 40 (zlf pc 40 (o_cne 59 43)) (znd pc 43 (zlf pc 43 (o_iload 5 45)) (zlf pc 45 (o_const 1 46))))) (znd pc 48 (znd pc 46 (zlf pc 46 (o_iadd 47)) (znd pc 47 (zlf pc 47 (o_iload 2 48)) (zlf pc 48 (o_cne 55 51)))) (znd pc 51 (zlf pc 51 (o_const 1 52)) (znd pc 52 (zlf pc 52 (o_goto 60)) (zlf pc 55 (o_const 0 56)))))) (znd pc 65 (znd pc 60 (znd pc 56 (zlf pc 56 (o_goto 60)) (znd pc 59 (zlf pc 59 (o_const 0 60)) (zlf pc 60 (o_istore 6 62)))) (znd pc 62 (zlf pc 62 (o_aload 0 63)) (znd pc 63 (zlf pc 63 (o_iload 4 65)) (zlf pc 65 (o_iload 5 67))))) (znd pc 71 (znd pc 67 (zlf pc 67 (o_const 0 68)) (znd pc 68 (zlf pc 68 (o_callv 6 44 4 4 1 71)) (zlf pc 71 (o_aload 0 72)))) (znd pc 72 (zlf pc 72 (o_iload 1 73)) (znd pc 73 (zlf pc 73 (o_iload 2 74)) (zlf pc 74 (o_const 0 75)))))))) (znd pc 118 (znd pc 93 (znd pc 84 (znd pc 78 (znd pc 75 (zlf pc 75 (o_callv 6 44 4 4 1 78)) (zlf pc 78 (o_cne 104 81))) (znd pc 81 (zlf pc 81 (o_aload 0 82)) (znd pc 82 (zlf pc 82 (o_iload 4 84)) (zlf pc 84 (o_iload 5 86))))) (znd pc 90 (znd pc 86 (zlf pc 86 (o_const 2 87)) (znd pc 87 (zlf pc 87 (o_callv 6 44 4 4 1 90)) (zlf pc 90 (o_aload 0 91)))) (znd pc 91 (zlf pc 91 (o_iload 1 92)) (znd pc 92 (zlf pc 92 (o_iload 2 93)) (zlf pc 93 (o_const 2 94)))))) (znd pc 105 (znd pc 100 (znd pc 94 (zlf pc 94 (o_callv 6 44 4 4 1 97)) (znd pc 97 (zlf pc 97 (o_cge 104 100)) (zlf pc 100 (o_const 1 101)))) (znd pc 101 (zlf pc 101 (o_goto 105)) (znd pc 104 (zlf pc 104 (o_const 0 105)) (zlf pc 105 (o_istore 7 107))))) (znd pc 112 (znd pc 107 (zlf pc 107 (o_iload 6 109)) (znd pc 109 (zlf pc 109 (o_ifne 117 112)) (zlf pc 112 (o_iload 7 114)))) (znd pc 114 (zlf pc 114 (o_ifeq 142 117)) (znd pc 117 (zlf pc 117 (o_aload 0 118)) (zlf pc 118 (o_iload 4 120))))))) (znd pc 139 (znd pc 127 (znd pc 122 (znd pc 120 (zlf pc 120 (o_iload 5 122)) (zlf pc 122 (o_const 3 123))) (znd pc 123 (zlf pc 123 (o_callv 6 60 4 4 1 126)) (znd pc 126 (zlf pc 126 (o_iload 3 127)) (zlf pc 127 (o_cle 142 130))))) (znd pc 133 (znd pc 130 (zlf pc 130 (o_aload 0 131)) (znd pc 131 (zlf pc 131 (o_iload 4 133)) (zlf pc 133 (o_iload 5 135)))) (znd pc 135 (zlf pc 135 (o_const 3 136)) (znd pc 136 (zlf pc 136 (o_callv 6 60 4 4 1 139)) (zlf pc 139 (o_goto 143)))))) (znd pc 153 (znd pc 144 (znd pc 142 (zlf pc 142 (o_iload 3 143)) (znd pc 143 (zlf pc 143 (o_istore 3 144)) (zlf pc 144 (o_iinc 5 1 147)))) (znd pc 147 (zlf pc 147 (o_goto 25)) (znd pc 150 (zlf pc 150 (o_iinc 4 1 153)) (zlf pc 153 (o_goto 11))))) (znd pc 158 (znd pc 156 (zlf pc 156 (o_aload 0 157)) (znd pc 157 (zlf pc 157 (o_iload 1 158)) (zlf pc 158 (o_iload 2 159)))) (znd pc 159 (zlf pc 159 (o_iload 3 160)) (znd pc 160 (zlf pc 160 (o_callv 6 59 4 6 1 163)) (zlf pc 163 (o_iret))))))))
/-- RepairShopModel.shiftPlan()V -/
def zc_72 (pc : Nat) : zOp := znd pc 41 (znd pc 18 (znd pc 8 (znd pc 2 (znd pc 0 (zlf pc 0 (o_aload 0 1)) (znd pc 1 (zlf pc 1 (o_const 2 2)) (zlf pc 2 (o_const 3 3)))) (znd pc 6 (znd pc 3 (zlf pc 3 (o_callv 6 67 3 6 1 6)) (zlf pc 6 (o_pop 7))) (znd pc 7 (zlf pc 7 (o_const 1 8)) (zlf pc 8 (o_istore 1 9))))) (znd pc 14 (znd pc 10 (znd pc 9 (zlf pc 9 (o_iload 1 10)) (zlf pc 10 (o_ifeq 98 13))) (znd pc 13 (zlf pc 13 (o_const 0 14)) (zlf pc 14 (o_istore 1 15)))) (znd pc 16 (znd pc 15 (zlf pc 15 (o_const 0 16)) (zlf pc 16 (o_istore 2 17))) (znd pc 17 (zlf pc 17 (o_iload 2 18)) (zlf pc 18 (o_aload 0 19)))))) (znd pc 29 (znd pc 23 (znd pc 19 (zlf pc 19 (o_getf 6 1 22)) (znd pc 22 (zlf pc 22 (o_const 1 23)) (zlf pc 23 (o_iald 24)))) (znd pc 27 (znd pc 24 (zlf pc 24 (o_cge 95 27)) (zlf pc 27 (o_const 0 28))) (znd pc 28 (zlf pc 28 (o_istore 3 29)) (zlf pc 29 (o_iload 3 30))))) (znd pc 33 (znd pc 31 (znd pc 30 (zlf pc 30 (o_aload 0 31)) (zlf pc 31 (o_iload 2 32))) (znd pc 32 (zlf pc 32 (o_const 2 33)) (zlf pc 33 (o_callv 6 42 3 3 1 36)))) (znd pc 39 (znd pc 36 (zlf pc 36 (o_cge 89 39)) (zlf pc 39 (o_aload 0 40))) (znd pc 40 (zlf pc 40 (o_iload 2 41)) (zlf pc 41 (o_iload 3 42))))))) (znd pc 68 (znd pc 54 (znd pc 47 (znd pc 42 (zlf pc 42 (o_callv 6 71 3 8 1 45)) (znd pc 45 (zlf pc 45 (o_istore 4 47)) (zlf pc 47 (o_iload 1 48)))) (znd pc 51 (znd pc 48 (zlf pc 48 (o_ifne 63 51)) (zlf pc 51 (o_iload 4 53))) (znd pc 53 (zlf pc 53 (o_aload 0 54)) (zlf pc 54 (o_iload 2 55))))) (znd pc 60 (znd pc 56 (znd pc 55 (zlf pc 55 (o_iload 3 56)) (zlf pc 56 (o_const 3 57))) (znd pc 57 (zlf pc 57 (o_callv 6 44 4 4 1 60)) (zlf pc 60 (o_ceq 67 63)))) (znd pc 64 (znd pc 63 (zlf pc 63 (o_const 1 64)) (zlf pc 64 (o_goto 68))) (znd pc 67 (zlf pc 67 (o_const 0 68)) (zlf pc 68 (o_istore 1 69)))))) (znd pc 79 (znd pc 73 (znd pc 69 (zlf pc 69 (o_aload 0 70)) (znd pc 70 (zlf pc 70 (o_getf 6 1 73)) (zlf pc 73 (o_iload 2 74)))) (znd pc 75 (znd pc 74 (zlf pc 74 (o_iload 3 75)) (zlf pc 75 (o_call 43 2 2 1 78))) (znd pc 78 (zlf pc 78 (o_const 3 79)) (zlf pc 79 (o_iadd 80))))) (znd pc 86 (znd pc 82 (znd pc 80 (zlf pc 80 (o_iload 4 82)) (zlf pc 82 (o_iast 83))) (znd pc 83 (zlf pc 83 (o_iinc 3 1 86)) (zlf pc 86 (o_goto 29)))) (znd pc 92 (znd pc 89 (zlf pc 89 (o_iinc 2 1 92)) (zlf pc 92 (o_goto 17))) (znd pc 95 (zlf pc 95 (o_goto 9)) (zlf pc 98 (o_ret)))))))
/-- RepairShopModel.hasPlan()Z -/
def zc_73 (pc : Nat) : zOp := znd pc 6 (znd pc 1 (znd pc 0 (zlf pc 0 (o_aload 0 1)) (zlf pc 1 (o_getf 6 1 4))) (znd pc 4 (zlf pc 4 (o_const 3 5)) (znd pc 5 (zlf pc 5 (o_iald 6)) (zlf pc 6 (o_const 1 7))))) (znd pc 10 (znd pc 7 (zlf pc 7 (o_cne 14 10)) (zlf pc 10 (o_const 1 11))) (znd pc 11 (zlf pc 11 (o_goto 15)) (znd pc 14 (zlf pc 14 (o_const 0 15)) (zlf pc 15 (o_zret)))))
/-- RepairShopModel.shift()I -/
def zc_74 (pc : Nat) : zOp := znd pc 17 (znd pc 8 (znd pc 1 (znd pc 0 (zlf pc 0 (o_aload 0 1)) (zlf pc 1 (o_aload 0 2))) (znd pc 2 (zlf pc 2 (o_callv 6 73 1 1 1 5)) (znd pc 5 (zlf pc 5 (o_ifeq 12 8)) (zlf pc 8 (o_const 0 9))))) (znd pc 12 (znd pc 9 (zlf pc 9 (o_goto 13)) (zlf pc 12 (o_const 1 13))) (znd pc 13 (zlf pc 13 (o_putf 6 0 16)) (znd pc 16 (zlf pc 16 (o_aload 0 17)) (zlf pc 17 (o_getf 6 0 20)))))) (znd pc 26 (znd pc 23 (znd pc 20 (zlf pc 20 (o_ifle 25 23)) (zlf pc 23 (o_const 0 24))) (znd pc 24 (zlf pc 24 (o_iret)) (znd pc 25 (zlf pc 25 (o_aload 0 26)) (zlf pc 26 (o_callv 6 39 1 2 0 29))))) (znd pc 33 (znd pc 29 (zlf pc 29 (o_aload 0 30)) (znd pc 30 (zlf pc 30 (o_callv 6 72 1 5 0 33)) (zlf pc 33 (o_aload 0 34)))) (znd pc 34 (zlf pc 34 (o_const 3 35)) (znd pc 35 (zlf pc 35 (o_callv 6 66 2 4 1 38)) (zlf pc 38 (o_iret))))))
/-- RepairShopModel.planAnew(II)V -/
def zc_75 (pc : Nat) : zOp := znd pc 51 (znd pc 21 (znd pc 8 (znd pc 2 (znd pc 0 (zlf pc 0 (o_const 0 1)) (znd pc 1 (zlf pc 1 (o_istore 3 2)) (zlf pc 2 (o_iload 3 3)))) (znd pc 4 (znd pc 3 (zlf pc 3 (o_aload 0 4)) (zlf pc 4 (o_getf 6 1 7))) (znd pc 7 (zlf pc 7 (o_const 1 8)) (zlf pc 8 (o_iald 9))))) (znd pc 15 (znd pc 12 (znd pc 9 (zlf pc 9 (o_cge 106 12)) (zlf pc 12 (o_const 1 13))) (znd pc 13 (zlf pc 13 (o_istore 4 15)) (zlf pc 15 (o_const 0 16)))) (znd pc 18 (znd pc 16 (zlf pc 16 (o_istore 5 18)) (zlf pc 18 (o_iload 5 20))) (znd pc 20 (zlf pc 20 (o_aload 0 21)) (zlf pc 21 (o_iload 3 22)))))) (znd pc 34 (znd pc 29 (znd pc 23 (znd pc 22 (zlf pc 22 (o_const 2 23)) (zlf pc 23 (o_callv 6 42 3 3 1 26))) (znd pc 26 (zlf pc 26 (o_cge 100 29)) (zlf pc 29 (o_aload 0 30)))) (znd pc 31 (znd pc 30 (zlf pc 30 (o_iload 3 31)) (zlf pc 31 (o_iload 5 33))) (znd pc 33 (zlf pc 33 (o_const 3 34)) (zlf pc 34 (o_callv 6 44 4 4 1 37))))) (znd pc 44 (znd pc 39 (znd pc 37 (zlf pc 37 (o_istore 6 39)) (zlf pc 39 (o_iload 4 41))) (znd pc 41 (zlf pc 41 (o_ifeq 67 44)) (zlf pc 44 (o_iload 6 46)))) (znd pc 47 (znd pc 46 (zlf pc 46 (o_iload 1 47)) (zlf pc 47 (o_cge 67 50))) (znd pc 50 (zlf pc 50 (o_aload 0 51)) (zlf pc 51 (o_iload 3 52))))))) (znd pc 80 (znd pc 64 (znd pc 56 (znd pc 52 (zlf pc 52 (o_iload 5 54)) (znd pc 54 (zlf pc 54 (o_iload 6 56)) (zlf pc 56 (o_callv 6 58 4 10 1 59)))) (znd pc 60 (znd pc 59 (zlf pc 59 (o_const (-1) 60)) (zlf pc 60 (o_cne 67 63))) (znd pc 63 (zlf pc 63 (o_const 1 64)) (zlf pc 64 (o_goto 68))))) (znd pc 71 (znd pc 68 (znd pc 67 (zlf pc 67 (o_const 0 68)) (zlf pc 68 (o_istore 4 70))) (znd pc 70 (zlf pc 70 (o_aload 0 71)) (zlf pc 71 (o_getf 6 1 74)))) (znd pc 75 (znd pc 74 (zlf pc 74 (o_iload 3 75)) (zlf pc 75 (o_iload 5 77))) (znd pc 77 (zlf pc 77 (o_call 43 2 2 1 80)) (zlf pc 80 (o_const 3 81)))))) (znd pc 94 (znd pc 87 (znd pc 82 (znd pc 81 (zlf pc 81 (o_iadd 82)) (zlf pc 82 (o_iload 4 84))) (znd pc 84 (zlf pc 84 (o_ifeq 92 87)) (zlf pc 87 (o_iload 6 89)))) (znd pc 92 (znd pc 89 (zlf pc 89 (o_goto 93)) (zlf pc 92 (o_const (-1) 93))) (znd pc 93 (zlf pc 93 (o_iast 94)) (zlf pc 94 (o_iinc 5 1 97))))) (znd pc 106 (znd pc 100 (znd pc 97 (zlf pc 97 (o_goto 18)) (zlf pc 100 (o_iinc 3 1 103))) (znd pc 103 (zlf pc 103 (o_goto 2)) (zlf pc 106 (o_aload 0 107)))) (znd pc 108 (znd pc 107 (zlf pc 107 (o_iload 2 108)) (zlf pc 108 (o_iload 1 109))) (znd pc 109 (zlf pc 109 (o_callv 6 64 3 11 0 112)) (zlf pc 112 (o_ret)))))))
/-- RepairShopModel.isMoment(I)Z -/
def zc_76 (pc : Nat) : zOp := znd pc 1 (znd pc 0 (zlf pc 0 (o_iload 0 1)) (zlf pc 1 (o_const 0 2))) (znd pc 2 (zlf pc 2 (o_const 999 5)) (znd pc 5 (zlf pc 5 (o_call 38 3 3 1 8)) (zlf pc 8 (o_zret))))
/-- RepairShopModel.replan(II)I -/
def zc_77 (pc : Nat) : zOp := znd pc 30 (znd pc 12 (znd pc 2 (znd pc 0 (zlf pc 0 (o_aload 0 1)) (znd pc 1 (zlf pc 1 (o_iload 1 2)) (zlf pc 2 (o_call 76 1 1 1 5)))) (znd pc 8 (znd pc 5 (zlf pc 5 (o_ifeq 15 8)) (zlf pc 8 (o_iload 2 9))) (znd pc 9 (zlf pc 9 (o_call 69 1 1 1 12)) (zlf pc 12 (o_ifne 19 15))))) (znd pc 20 (znd pc 16 (znd pc 15 (zlf pc 15 (o_const 1 16)) (zlf pc 16 (o_goto 31))) (znd pc 19 (zlf pc 19 (o_aload 0 20)) (zlf pc 20 (o_callv 6 73 1 1 1 23)))) (znd pc 26 (znd pc 23 (zlf pc 23 (o_ifeq 30 26)) (zlf pc 26 (o_const 0 27))) (znd pc 27 (zlf pc 27 (o_goto 31)) (zlf pc 30 (o_const 2 31)))))) (znd pc 44 (znd pc 38 (znd pc 34 (znd pc 31 (zlf pc 31 (o_putf 6 0 34)) (zlf pc 34 (o_aload 0 35))) (znd pc 35 (zlf pc 35 (o_getf 6 0 38)) (zlf pc 38 (o_ifle 43 41)))) (znd pc 42 (znd pc 41 (zlf pc 41 (o_const 0 42)) (zlf pc 42 (o_iret))) (znd pc 43 (zlf pc 43 (o_aload 0 44)) (zlf pc 44 (o_callv 6 39 1 2 0 47))))) (znd pc 50 (znd pc 48 (znd pc 47 (zlf pc 47 (o_aload 0 48)) (zlf pc 48 (o_iload 1 49))) (znd pc 49 (zlf pc 49 (o_iload 2 50)) (zlf pc 50 (o_callv 6 75 3 7 0 53)))) (znd pc 54 (znd pc 53 (zlf pc 53 (o_aload 0 54)) (zlf pc 54 (o_const 3 55))) (znd pc 55 (zlf pc 55 (o_callv 6 66 2 4 1 58)) (zlf pc 58 (o_iret))))))
/-- RepairShopModel.accept()I -/
def zc_78 (pc : Nat) : zOp := znd pc 17 (znd pc 8 (znd pc 1 (znd pc 0 (zlf pc 0 (o_aload 0 1)) (zlf pc 1 (o_aload 0 2))) (znd pc 2 (zlf pc 2 (o_callv 6 73 1 1 1 5)) (znd pc 5 (zlf pc 5 (o_ifeq 12 8)) (zlf pc 8 (o_const 0 9))))) (znd pc 12 (znd pc 9 (zlf pc 9 (o_goto 13)) (zlf pc 12 (o_const 1 13))) (znd pc 13 (zlf pc 13 (o_putf 6 0 16)) (znd pc 16 (zlf pc 16 (o_aload 0 17)) (zlf pc 17 (o_getf 6 0 20)))))) (znd pc 26 (znd pc 23 (znd pc 20 (zlf pc 20 (o_ifle 25 23)) (zlf pc 23 (o_const 0 24))) (znd pc 24 (zlf pc 24 (o_iret)) (znd pc 25 (zlf pc 25 (o_aload 0 26)) (zlf pc 26 (o_callv 6 39 1 2 0 29))))) (znd pc 30 (znd pc 29 (zlf pc 29 (o_aload 0 30)) (zlf pc 30 (o_const 3 31))) (znd pc 31 (zlf pc 31 (o_const 2 32)) (znd pc 32 (zlf pc 32 (o_callv 6 67 3 6 1 35)) (zlf pc 35 (o_iret))))))
/-- RepairShopModel.bargain(II)I -/
def zc_79 (pc : Nat) : zOp := znd pc 58 (znd pc 28 (znd pc 13 (znd pc 3 (znd pc 1 (znd pc 0 (zlf pc 0 (o_aload 0 1)) (zlf pc 1 (o_aload 0 2))) (znd pc 2 (zlf pc 2 (o_iload 1 3)) (zlf pc 3 (o_callv 6 41 2 2 1 6)))) (znd pc 9 (znd pc 6 (zlf pc 6 (o_ifne 13 9)) (zlf pc 9 (o_const 1 10))) (znd pc 10 (zlf pc 10 (o_goto 46)) (zlf pc 13 (o_iload 2 14))))) (znd pc 20 (znd pc 15 (znd pc 14 (zlf pc 14 (o_const 1 15)) (zlf pc 15 (o_const 99 17))) (znd pc 17 (zlf pc 17 (o_call 38 3 3 1 20)) (zlf pc 20 (o_ifne 27 23)))) (znd pc 24 (znd pc 23 (zlf pc 23 (o_const 2 24)) (zlf pc 24 (o_goto 46))) (znd pc 27 (zlf pc 27 (o_aload 0 28)) (zlf pc 28 (o_iload 1 29)))))) (znd pc 42 (znd pc 34 (znd pc 30 (znd pc 29 (zlf pc 29 (o_const 1 30)) (zlf pc 30 (o_callv 6 42 3 3 1 33))) (znd pc 33 (zlf pc 33 (o_iload 2 34)) (zlf pc 34 (o_iadd 35)))) (znd pc 38 (znd pc 35 (zlf pc 35 (o_const 999 38)) (zlf pc 38 (o_cle 45 41))) (znd pc 41 (zlf pc 41 (o_const 3 42)) (zlf pc 42 (o_goto 46))))) (znd pc 50 (znd pc 46 (znd pc 45 (zlf pc 45 (o_const 0 46)) (zlf pc 46 (o_putf 6 0 49))) (znd pc 49 (zlf pc 49 (o_aload 0 50)) (zlf pc 50 (o_getf 6 0 53)))) (znd pc 56 (znd pc 53 (zlf pc 53 (o_ifle 58 56)) (zlf pc 56 (o_const 0 57))) (znd pc 57 (zlf pc 57 (o_iret)) (zlf pc 58 (o_aload 0 59))))))) (znd pc 78 (znd pc 70 (znd pc 66 (znd pc 62 (znd pc 59 (zlf pc 59 (o_callv 6 39 1 2 0 62)) (zlf pc 62 (o_aload 0 63))) (znd pc 63 (zlf pc 63 (o_getf 6 1 66)) (zlf pc 66 (o_const 5 67)))) (znd pc 68 (znd pc 67 (zlf pc 67 (o_const 3 68)) (zlf pc 68 (o_iload 1 69))) (znd pc 69 (zlf pc 69 (o_imul 70)) (zlf pc 70 (o_iadd 71))))) (znd pc 74 (znd pc 72 (znd pc 71 (zlf pc 71 (o_const 1 72)) (zlf pc 72 (o_iadd 73))) (znd pc 73 (zlf pc 73 (o_dup2 74)) (zlf pc 74 (o_iald 75)))) (znd pc 76 (znd pc 75 (zlf pc 75 (o_iload 2 76)) (zlf pc 76 (o_iadd 77))) (znd pc 77 (zlf pc 77 (o_iast 78)) (zlf pc 78 (o_aload 0 79)))))) (znd pc 88 (znd pc 84 (znd pc 82 (znd pc 79 (zlf pc 79 (o_getf 6 1 82)) (zlf pc 82 (o_const 4 83))) (znd pc 83 (zlf pc 83 (o_dup2 84)) (zlf pc 84 (o_iald 85)))) (znd pc 86 (znd pc 85 (zlf pc 85 (o_iload 2 86)) (zlf pc 86 (o_aload 0 87))) (znd pc 87 (zlf pc 87 (o_iload 1 88)) (zlf pc 88 (o_const 0 89))))) (znd pc 94 (znd pc 92 (znd pc 89 (zlf pc 89 (o_callv 6 42 3 3 1 92)) (zlf pc 92 (o_imul 93))) (znd pc 93 (zlf pc 93 (o_iadd 94)) (zlf pc 94 (o_iast 95)))) (znd pc 96 (znd pc 95 (zlf pc 95 (o_aload 0 96)) (zlf pc 96 (o_iload 1 97))) (znd pc 97 (zlf pc 97 (o_const 1 98)) (znd pc 98 (zlf pc 98 (o_callv 6 42 3 3 1 101)) (zlf pc 101 (o_iret))))))))
/-- RepairShopModel.overtime(II)I -/
def zc_80 (pc : Nat) : zOp := znd pc 47 (znd pc 21 (znd pc 10 (znd pc 2 (znd pc 0 (zlf pc 0 (o_aload 0 1)) (znd pc 1 (zlf pc 1 (o_aload 0 2)) (zlf pc 2 (o_iload 1 3)))) (znd pc 4 (znd pc 3 (zlf pc 3 (o_iload 2 4)) (zlf pc 4 (o_callv 6 45 3 3 1 7))) (znd pc 7 (zlf pc 7 (o_ifne 14 10)) (zlf pc 10 (o_const 1 11))))) (znd pc 15 (znd pc 11 (zlf pc 11 (o_goto 30)) (znd pc 14 (zlf pc 14 (o_aload 0 15)) (zlf pc 15 (o_iload 1 16)))) (znd pc 17 (znd pc 16 (zlf pc 16 (o_iload 2 17)) (zlf pc 17 (o_const 1 18))) (znd pc 18 (zlf pc 18 (o_callv 6 44 4 4 1 21)) (zlf pc 21 (o_const 1 22)))))) (znd pc 34 (znd pc 26 (znd pc 22 (zlf pc 22 (o_cne 29 25)) (znd pc 25 (zlf pc 25 (o_const 2 26)) (zlf pc 26 (o_goto 30)))) (znd pc 30 (znd pc 29 (zlf pc 29 (o_const 0 30)) (zlf pc 30 (o_putf 6 0 33))) (znd pc 33 (zlf pc 33 (o_aload 0 34)) (zlf pc 34 (o_getf 6 0 37))))) (znd pc 41 (znd pc 37 (zlf pc 37 (o_ifle 42 40)) (znd pc 40 (zlf pc 40 (o_const 0 41)) (zlf pc 41 (o_iret)))) (znd pc 43 (znd pc 42 (zlf pc 42 (o_aload 0 43)) (zlf pc 43 (o_callv 6 39 1 2 0 46))) (znd pc 46 (zlf pc 46 (o_aload 0 47)) (zlf pc 47 (o_getf 6 1 50))))))) (znd pc 67 (znd pc 58 (znd pc 52 (znd pc 50 (zlf pc 50 (o_iload 1 51)) (znd pc 51 (zlf pc 51 (o_iload 2 52)) (zlf pc 52 (o_call 43 2 2 1 55)))) (znd pc 56 (znd pc 55 (zlf pc 55 (o_const 1 56)) (zlf pc 56 (o_iadd 57))) (znd pc 57 (zlf pc 57 (o_dup2 58)) (zlf pc 58 (o_iald 59))))) (znd pc 61 (znd pc 59 (zlf pc 59 (o_const 1 60)) (znd pc 60 (zlf pc 60 (o_isub 61)) (zlf pc 61 (o_iast 62)))) (znd pc 63 (znd pc 62 (zlf pc 62 (o_aload 0 63)) (zlf pc 63 (o_getf 6 1 66))) (znd pc 66 (zlf pc 66 (o_const 4 67)) (zlf pc 67 (o_dup2 68)))))) (znd pc 76 (znd pc 70 (znd pc 68 (zlf pc 68 (o_iald 69)) (znd pc 69 (zlf pc 69 (o_const 3 70)) (zlf pc 70 (o_iadd 71)))) (znd pc 72 (znd pc 71 (zlf pc 71 (o_iast 72)) (zlf pc 72 (o_aload 0 73))) (znd pc 73 (zlf pc 73 (o_getf 6 1 76)) (zlf pc 76 (o_const 3 77))))) (znd pc 80 (znd pc 78 (znd pc 77 (zlf pc 77 (o_const 0 78)) (zlf pc 78 (o_iast 79))) (znd pc 79 (zlf pc 79 (o_aload 0 80)) (zlf pc 80 (o_iload 1 81)))) (znd pc 82 (znd pc 81 (zlf pc 81 (o_iload 2 82)) (zlf pc 82 (o_const 1 83))) (znd pc 83 (zlf pc 83 (o_callv 6 44 4 4 1 86)) (zlf pc 86 (o_iret)))))))
/-- RepairShopModel.jobValue(II)I -/
def zc_81 (pc : Nat) : zOp := znd pc 68 (znd pc 21 (znd pc 8 (znd pc 2 (znd pc 0 (zlf pc 0 (o_aload 0 1)) (znd pc 1 (zlf pc 1 (o_iload 1 2)) (zlf pc 2 (o_const 2 3)))) (znd pc 6 (znd pc 3 (zlf pc 3 (o_callv 6 42 3 3 1 6)) (zlf pc 6 (o_istore 3 7))) (znd pc 7 (zlf pc 7 (o_const 0 8)) (zlf pc 8 (o_istore 4 10))))) (znd pc 13 (znd pc 10 (zlf pc 10 (o_const 0 11)) (znd pc 11 (zlf pc 11 (o_istore 5 13)) (zlf pc 13 (o_iload 5 15)))) (znd pc 16 (znd pc 15 (zlf pc 15 (o_iload 3 16)) (zlf pc 16 (o_cge 38 19))) (znd pc 19 (zlf pc 19 (o_iload 4 21)) (zlf pc 21 (o_aload 0 22)))))) (znd pc 32 (znd pc 25 (znd pc 22 (zlf pc 22 (o_iload 1 23)) (znd pc 23 (zlf pc 23 (o_iload 5 25)) (zlf pc 25 (o_const 1 26)))) (znd pc 29 (znd pc 26 (zlf pc 26 (o_callv 6 44 4 4 1 29)) (zlf pc 29 (o_iadd 30))) (znd pc 30 (zlf pc 30 (o_istore 4 32)) (zlf pc 32 (o_iinc 5 1 35))))) (znd pc 39 (znd pc 35 (zlf pc 35 (o_goto 13)) (znd pc 38 (zlf pc 38 (o_iload 2 39)) (zlf pc 39 (o_sw [(3, 64), (4, 67), (5, 92)] 110)))) (znd pc 66 (znd pc 64 (zlf pc 64 (o_iload 4 66)) (zlf pc 66 (o_iret))) (znd pc 67 (zlf pc 67 (o_aload 0 68)) (zlf pc 68 (o_callv 6 73 1 1 1 71))))))) (znd pc 92 (znd pc 81 (znd pc 75 (znd pc 71 (zlf pc 71 (o_ifeq 90 74)) (znd pc 74 (zlf pc 74 (o_iload 3 75)) (zlf pc 75 (o_ifle 90 78)))) (znd pc 79 (znd pc 78 (zlf pc 78 (o_aload 0 79)) (zlf pc 79 (o_iload 1 80))) (znd pc 80 (zlf pc 80 (o_iload 3 81)) (zlf pc 81 (o_const 1 82))))) (znd pc 84 (znd pc 82 (zlf pc 82 (o_isub 83)) (znd pc 83 (zlf pc 83 (o_const 3 84)) (zlf pc 84 (o_callv 6 60 4 4 1 87)))) (znd pc 90 (znd pc 87 (zlf pc 87 (o_goto 91)) (zlf pc 90 (o_const (-1) 91))) (znd pc 91 (zlf pc 91 (o_iret)) (zlf pc 92 (o_aload 0 93)))))) (znd pc 105 (znd pc 99 (znd pc 93 (zlf pc 93 (o_callv 6 73 1 1 1 96)) (znd pc 96 (zlf pc 96 (o_ifeq 108 99)) (zlf pc 99 (o_aload 0 100)))) (znd pc 101 (znd pc 100 (zlf pc 100 (o_iload 1 101)) (zlf pc 101 (o_const 3 102))) (znd pc 102 (zlf pc 102 (o_callv 6 65 3 5 1 105)) (zlf pc 105 (o_goto 109))))) (znd pc 110 (znd pc 108 (zlf pc 108 (o_const (-1) 109)) (znd pc 109 (zlf pc 109 (o_iret)) (zlf pc 110 (o_aload 0 111)))) (znd pc 112 (znd pc 111 (zlf pc 111 (o_iload 1 112)) (zlf pc 112 (o_iload 2 113))) (znd pc 113 (zlf pc 113 (o_callv 6 42 3 3 1 116)) (zlf pc 116 (o_iret)))))))
/-- RepairShopModel.job(II)I -/
def zc_82 (pc : Nat) : zOp := znd pc 22 (znd pc 9 (znd pc 2 (znd pc 0 (zlf pc 0 (o_aload 0 1)) (znd pc 1 (zlf pc 1 (o_aload 0 2)) (zlf pc 2 (o_iload 1 3)))) (znd pc 3 (zlf pc 3 (o_callv 6 41 2 2 1 6)) (znd pc 6 (zlf pc 6 (o_ifne 13 9)) (zlf pc 9 (o_const 1 10))))) (znd pc 14 (znd pc 10 (zlf pc 10 (o_goto 27)) (znd pc 13 (zlf pc 13 (o_iload 2 14)) (zlf pc 14 (o_const 0 15)))) (znd pc 16 (znd pc 15 (zlf pc 15 (o_const 5 16)) (zlf pc 16 (o_call 38 3 3 1 19))) (znd pc 19 (zlf pc 19 (o_ifeq 26 22)) (zlf pc 22 (o_const 0 23)))))) (znd pc 34 (znd pc 27 (znd pc 23 (zlf pc 23 (o_goto 27)) (znd pc 26 (zlf pc 26 (o_const 2 27)) (zlf pc 27 (o_putf 6 0 30)))) (znd pc 30 (zlf pc 30 (o_aload 0 31)) (znd pc 31 (zlf pc 31 (o_getf 6 0 34)) (zlf pc 34 (o_ifle 41 37))))) (znd pc 41 (znd pc 37 (zlf pc 37 (o_const 0 38)) (znd pc 38 (zlf pc 38 (o_goto 47)) (zlf pc 41 (o_aload 0 42)))) (znd pc 43 (znd pc 42 (zlf pc 42 (o_iload 1 43)) (zlf pc 43 (o_iload 2 44))) (znd pc 44 (zlf pc 44 (o_callv 6 81 3 6 1 47)) (zlf pc 47 (o_iret))))))
/-- RepairShopModel.isHit(II)I -/
def zc_83 (pc : Nat) : zOp := znd pc 6 (znd pc 2 (znd pc 0 (zlf pc 0 (o_aload 0 1)) (znd pc 1 (zlf pc 1 (o_iload 1 2)) (zlf pc 2 (o_iload 2 3)))) (znd pc 4 (znd pc 3 (zlf pc 3 (o_aload 0 4)) (zlf pc 4 (o_iload 1 5))) (znd pc 5 (zlf pc 5 (o_iload 2 6)) (zlf pc 6 (o_const 3 7))))) (znd pc 14 (znd pc 10 (znd pc 7 (zlf pc 7 (o_callv 6 44 4 4 1 10)) (zlf pc 10 (o_callv 6 58 4 10 1 13))) (znd pc 13 (zlf pc 13 (o_const (-1) 14)) (zlf pc 14 (o_cne 21 17)))) (znd pc 18 (znd pc 17 (zlf pc 17 (o_const 0 18)) (zlf pc 18 (o_goto 22))) (znd pc 21 (zlf pc 21 (o_const 1 22)) (zlf pc 22 (o_iret)))))
/-- RepairShopModel.operationValue(III)I -/
def zc_84 (pc : Nat) : zOp := znd pc 16 (znd pc 6 (znd pc 1 (znd pc 0 (zlf pc 0 (o_iload 3 1)) (zlf pc 1 (o_const 2 2))) (znd pc 2 (zlf pc 2 (o_clt 14 5)) (znd pc 5 (zlf pc 5 (o_aload 0 6)) (zlf pc 6 (o_callv 6 73 1 1 1 9))))) (znd pc 13 (znd pc 9 (zlf pc 9 (o_ifne 14 12)) (znd pc 12 (zlf pc 12 (o_const (-1) 13)) (zlf pc 13 (o_iret)))) (znd pc 14 (zlf pc 14 (o_iload 3 15)) (znd pc 15 (zlf pc 15 (o_const 4 16)) (zlf pc 16 (o_cne 28 19)))))) (znd pc 25 (znd pc 20 (znd pc 19 (zlf pc 19 (o_aload 0 20)) (zlf pc 20 (o_iload 1 21))) (znd pc 21 (zlf pc 21 (o_iload 2 22)) (znd pc 22 (zlf pc 22 (o_callv 6 83 3 3 1 25)) (zlf pc 25 (o_goto 35))))) (znd pc 30 (znd pc 28 (zlf pc 28 (o_aload 0 29)) (znd pc 29 (zlf pc 29 (o_iload 1 30)) (zlf pc 30 (o_iload 2 31)))) (znd pc 31 (zlf pc 31 (o_iload 3 32)) (znd pc 32 (zlf pc 32 (o_callv 6 44 4 4 1 35)) (zlf pc 35 (o_iret))))))
/-- RepairShopModel.operation(III)I -/
def zc_85 (pc : Nat) : zOp := znd pc 23 (znd pc 10 (znd pc 2 (znd pc 0 (zlf pc 0 (o_aload 0 1)) (znd pc 1 (zlf pc 1 (o_aload 0 2)) (zlf pc 2 (o_iload 1 3)))) (znd pc 4 (znd pc 3 (zlf pc 3 (o_iload 2 4)) (zlf pc 4 (o_callv 6 45 3 3 1 7))) (znd pc 7 (zlf pc 7 (o_ifne 14 10)) (zlf pc 10 (o_const 1 11))))) (znd pc 15 (znd pc 11 (zlf pc 11 (o_goto 28)) (znd pc 14 (zlf pc 14 (o_iload 3 15)) (zlf pc 15 (o_const 0 16)))) (znd pc 17 (znd pc 16 (zlf pc 16 (o_const 4 17)) (zlf pc 17 (o_call 38 3 3 1 20))) (znd pc 20 (zlf pc 20 (o_ifeq 27 23)) (zlf pc 23 (o_const 0 24)))))) (znd pc 38 (znd pc 28 (znd pc 24 (zlf pc 24 (o_goto 28)) (znd pc 27 (zlf pc 27 (o_const 2 28)) (zlf pc 28 (o_putf 6 0 31)))) (znd pc 32 (znd pc 31 (zlf pc 31 (o_aload 0 32)) (zlf pc 32 (o_getf 6 0 35))) (znd pc 35 (zlf pc 35 (o_ifle 42 38)) (zlf pc 38 (o_const 0 39))))) (znd pc 43 (znd pc 39 (zlf pc 39 (o_goto 49)) (znd pc 42 (zlf pc 42 (o_aload 0 43)) (zlf pc 43 (o_iload 1 44)))) (znd pc 45 (znd pc 44 (zlf pc 44 (o_iload 2 45)) (zlf pc 45 (o_iload 3 46))) (znd pc 46 (zlf pc 46 (o_callv 6 84 4 4 1 49)) (zlf pc 49 (o_iret))))))
/-- RepairShopModel.breakdown(II)I -/
def zc_86 (pc : Nat) : zOp := znd pc 23 (znd pc 9 (znd pc 3 (znd pc 1 (znd pc 0 (zlf pc 0 (o_aload 0 1)) (zlf pc 1 (o_iload 1 2))) (znd pc 2 (zlf pc 2 (o_const 0 3)) (zlf pc 3 (o_aload 0 4)))) (znd pc 7 (znd pc 4 (zlf pc 4 (o_getf 6 1 7)) (zlf pc 7 (o_const 2 8))) (znd pc 8 (zlf pc 8 (o_iald 9)) (zlf pc 9 (o_const 1 10))))) (znd pc 17 (znd pc 11 (znd pc 10 (zlf pc 10 (o_isub 11)) (zlf pc 11 (o_call 38 3 3 1 14))) (znd pc 14 (zlf pc 14 (o_ifne 21 17)) (zlf pc 17 (o_const 1 18)))) (znd pc 21 (znd pc 18 (zlf pc 18 (o_goto 35)) (zlf pc 21 (o_iload 2 22))) (znd pc 22 (zlf pc 22 (o_const 0 23)) (zlf pc 23 (o_const 2 24)))))) (znd pc 39 (znd pc 31 (znd pc 27 (znd pc 24 (zlf pc 24 (o_call 38 3 3 1 27)) (zlf pc 27 (o_ifeq 34 30))) (znd pc 30 (zlf pc 30 (o_const 0 31)) (zlf pc 31 (o_goto 35)))) (znd pc 35 (znd pc 34 (zlf pc 34 (o_const 2 35)) (zlf pc 35 (o_putf 6 0 38))) (znd pc 38 (zlf pc 38 (o_aload 0 39)) (zlf pc 39 (o_getf 6 0 42))))) (znd pc 49 (znd pc 45 (znd pc 42 (zlf pc 42 (o_ifle 49 45)) (zlf pc 45 (o_const 0 46))) (znd pc 46 (zlf pc 46 (o_goto 55)) (zlf pc 49 (o_aload 0 50)))) (znd pc 51 (znd pc 50 (zlf pc 50 (o_iload 1 51)) (zlf pc 51 (o_iload 2 52))) (znd pc 52 (zlf pc 52 (o_callv 6 46 3 3 1 55)) (zlf pc 55 (o_iret))))))
/-- RepairShopModel.greatestEnd()I -/
def zc_87 (pc : Nat) : zOp := znd pc 26 (znd pc 10 (znd pc 3 (znd pc 1 (znd pc 0 (zlf pc 0 (o_const 0 1)) (zlf pc 1 (o_istore 1 2))) (znd pc 2 (zlf pc 2 (o_const 0 3)) (zlf pc 3 (o_istore 2 4)))) (znd pc 5 (znd pc 4 (zlf pc 4 (o_iload 2 5)) (zlf pc 5 (o_aload 0 6))) (znd pc 6 (zlf pc 6 (o_getf 6 1 9)) (znd pc 9 (zlf pc 9 (o_const 1 10)) (zlf pc 10 (o_iald 11)))))) (znd pc 17 (znd pc 14 (znd pc 11 (zlf pc 11 (o_cge 61 14)) (zlf pc 14 (o_const 0 15))) (znd pc 15 (zlf pc 15 (o_istore 3 16)) (znd pc 16 (zlf pc 16 (o_iload 3 17)) (zlf pc 17 (o_aload 0 18))))) (znd pc 19 (znd pc 18 (zlf pc 18 (o_iload 2 19)) (zlf pc 19 (o_const 2 20))) (znd pc 20 (zlf pc 20 (o_callv 6 42 3 3 1 23)) (znd pc 23 (zlf pc 23 (o_cge 55 26)) (zlf pc 26 (o_aload 0 27))))))) (znd pc 40 (znd pc 33 (znd pc 28 (znd pc 27 (zlf pc 27 (o_iload 2 28)) (zlf pc 28 (o_iload 3 29))) (znd pc 29 (zlf pc 29 (o_const 3 30)) (znd pc 30 (zlf pc 30 (o_callv 6 60 4 4 1 33)) (zlf pc 33 (o_iload 1 34))))) (znd pc 37 (znd pc 34 (zlf pc 34 (o_cle 47 37)) (zlf pc 37 (o_aload 0 38))) (znd pc 38 (zlf pc 38 (o_iload 2 39)) (znd pc 39 (zlf pc 39 (o_iload 3 40)) (zlf pc 40 (o_const 3 41)))))) (znd pc 49 (znd pc 44 (znd pc 41 (zlf pc 41 (o_callv 6 60 4 4 1 44)) (zlf pc 44 (o_goto 48))) (znd pc 47 (zlf pc 47 (o_iload 1 48)) (znd pc 48 (zlf pc 48 (o_istore 1 49)) (zlf pc 49 (o_iinc 3 1 52))))) (znd pc 55 (znd pc 52 (zlf pc 52 (o_goto 16)) (zlf pc 55 (o_iinc 2 1 58))) (znd pc 58 (zlf pc 58 (o_goto 4)) (znd pc 61 (zlf pc 61 (o_iload 1 62)) (zlf pc 62 (o_iret)))))))
/-- RepairShopModel.operationMany()I -/
def zc_88 (pc : Nat) : zOp := znd pc 11 (znd pc 4 (znd pc 1 (znd pc 0 (zlf pc 0 (o_const 0 1)) (zlf pc 1 (o_istore 1 2))) (znd pc 2 (zlf pc 2 (o_const 0 3)) (znd pc 3 (zlf pc 3 (o_istore 2 4)) (zlf pc 4 (o_iload 2 5))))) (znd pc 6 (znd pc 5 (zlf pc 5 (o_aload 0 6)) (zlf pc 6 (o_getf 6 1 9))) (znd pc 9 (zlf pc 9 (o_const 1 10)) (znd pc 10 (zlf pc 10 (o_iald 11)) (zlf pc 11 (o_cge 29 14)))))) (znd pc 18 (znd pc 15 (znd pc 14 (zlf pc 14 (o_iload 1 15)) (zlf pc 15 (o_aload 0 16))) (znd pc 16 (zlf pc 16 (o_iload 2 17)) (znd pc 17 (zlf pc 17 (o_const 2 18)) (zlf pc 18 (o_callv 6 42 3 3 1 21))))) (znd pc 23 (znd pc 21 (zlf pc 21 (o_iadd 22)) (znd pc 22 (zlf pc 22 (o_istore 1 23)) (zlf pc 23 (o_iinc 2 1 26)))) (znd pc 26 (zlf pc 26 (o_goto 4)) (znd pc 29 (zlf pc 29 (o_iload 1 30)) (zlf pc 30 (o_iret))))))
/-- RepairShopModel.hitMany()I -/
def zc_89 (pc : Nat) : zOp := znd pc 18 (znd pc 6 (znd pc 2 (znd pc 0 (zlf pc 0 (o_const 0 1)) (znd pc 1 (zlf pc 1 (o_istore 1 2)) (zlf pc 2 (o_const 0 3)))) (znd pc 4 (znd pc 3 (zlf pc 3 (o_istore 2 4)) (zlf pc 4 (o_iload 2 5))) (znd pc 5 (zlf pc 5 (o_aload 0 6)) (zlf pc 6 (o_getf 6 1 9))))) (znd pc 14 (znd pc 10 (znd pc 9 (zlf pc 9 (o_const 1 10)) (zlf pc 10 (o_iald 11))) (znd pc 11 (zlf pc 11 (o_cge 47 14)) (zlf pc 14 (o_const 0 15)))) (znd pc 16 (znd pc 15 (zlf pc 15 (o_istore 3 16)) (zlf pc 16 (o_iload 3 17))) (znd pc 17 (zlf pc 17 (o_aload 0 18)) (zlf pc 18 (o_iload 2 19)))))) (znd pc 30 (znd pc 26 (znd pc 20 (znd pc 19 (zlf pc 19 (o_const 2 20)) (zlf pc 20 (o_callv 6 42 3 3 1 23))) (znd pc 23 (zlf pc 23 (o_cge 41 26)) (zlf pc 26 (o_iload 1 27)))) (znd pc 28 (znd pc 27 (zlf pc 27 (o_aload 0 28)) (zlf pc 28 (o_iload 2 29))) (znd pc 29 (zlf pc 29 (o_iload 3 30)) (zlf pc 30 (o_callv 6 83 3 3 1 33))))) (znd pc 38 (znd pc 34 (znd pc 33 (zlf pc 33 (o_iadd 34)) (zlf pc 34 (o_istore 1 35))) (znd pc 35 (zlf pc 35 (o_iinc 3 1 38)) (zlf pc 38 (o_goto 16)))) (znd pc 44 (znd pc 41 (zlf pc 41 (o_iinc 2 1 44)) (zlf pc 44 (o_goto 4))) (znd pc 47 (zlf pc 47 (o_iload 1 48)) (zlf pc 48 (o_iret))))))
/-- RepairShopModel.valueOf(I)I -/
def zc_90 (pc : Nat) : zOp := znd pc 91 (znd pc 72 (znd pc 10 (znd pc 3 (znd pc 0 (zlf pc 0 (o_iload 1 1)) (znd pc 1 (zlf pc 1 (o_const 6 3)) (zlf pc 3 (o_clt 15 6)))) (znd pc 6 (zlf pc 6 (o_aload 0 7)) (znd pc 7 (zlf pc 7 (o_callv 6 73 1 1 1 10)) (zlf pc 10 (o_ifne 15 13))))) (znd pc 15 (znd pc 13 (zlf pc 13 (o_const (-1) 14)) (znd pc 14 (zlf pc 14 (o_iret)) (zlf pc 15 (o_iload 1 16)))) (znd pc 68 (znd pc 16 (zlf pc 16 (o_sw [(0, 68), (1, 75), (2, 82), (3, 87), (4, 94), (5, 101), (6, 108), (7, 114), (8, 120)] 125)) (zlf pc 68 (o_aload 0 69))) (znd pc 69 (zlf pc 69 (o_getf 6 1 72)) (zlf pc 72 (o_const 0 73)))))) (znd pc 80 (znd pc 75 (znd pc 73 (zlf pc 73 (o_iald 74)) (znd pc 74 (zlf pc 74 (o_iret)) (zlf pc 75 (o_aload 0 76)))) (znd pc 76 (zlf pc 76 (o_getf 6 1 79)) (znd pc 79 (zlf pc 79 (o_const 1 80)) (zlf pc 80 (o_iald 81))))) (znd pc 83 (znd pc 81 (zlf pc 81 (o_iret)) (znd pc 82 (zlf pc 82 (o_aload 0 83)) (zlf pc 83 (o_callv 6 88 1 3 1 86)))) (znd pc 87 (znd pc 86 (zlf pc 86 (o_iret)) (zlf pc 87 (o_aload 0 88))) (znd pc 88 (zlf pc 88 (o_getf 6 1 91)) (zlf pc 91 (o_const 2 92))))))) (znd pc 108 (znd pc 99 (znd pc 94 (znd pc 92 (zlf pc 92 (o_iald 93)) (znd pc 93 (zlf pc 93 (o_iret)) (zlf pc 94 (o_aload 0 95)))) (znd pc 95 (zlf pc 95 (o_getf 6 1 98)) (znd pc 98 (zlf pc 98 (o_const 3 99)) (zlf pc 99 (o_iald 100))))) (znd pc 102 (znd pc 100 (zlf pc 100 (o_iret)) (znd pc 101 (zlf pc 101 (o_aload 0 102)) (zlf pc 102 (o_getf 6 1 105)))) (znd pc 106 (znd pc 105 (zlf pc 105 (o_const 4 106)) (zlf pc 106 (o_iald 107))) (znd pc 107 (zlf pc 107 (o_iret)) (zlf pc 108 (o_aload 0 109)))))) (znd pc 116 (znd pc 113 (znd pc 109 (zlf pc 109 (o_const 2 110)) (znd pc 110 (zlf pc 110 (o_callv 6 66 2 4 1 113)) (zlf pc 113 (o_iret)))) (znd pc 114 (zlf pc 114 (o_aload 0 115)) (znd pc 115 (zlf pc 115 (o_const 3 116)) (zlf pc 116 (o_callv 6 66 2 4 1 119))))) (znd pc 121 (znd pc 119 (zlf pc 119 (o_iret)) (znd pc 120 (zlf pc 120 (o_aload 0 121)) (zlf pc 121 (o_callv 6 87 1 4 1 124)))) (znd pc 125 (znd pc 124 (zlf pc 124 (o_iret)) (zlf pc 125 (o_aload 0 126))) (znd pc 126 (zlf pc 126 (o_callv 6 89 1 4 1 129)) (zlf pc 129 (o_iret)))))))
/-- RepairShopModel.value(I)I -/
def zc_91 (pc : Nat) : zOp := znd pc 15 (znd pc 3 (znd pc 1 (znd pc 0 (zlf pc 0 (o_aload 0 1)) (zlf pc 1 (o_iload 1 2))) (znd pc 2 (zlf pc 2 (o_const 0 3)) (zlf pc 3 (o_const 9 5)))) (znd pc 8 (znd pc 5 (zlf pc 5 (o_call 38 3 3 1 8)) (zlf pc 8 (o_ifeq 15 11))) (znd pc 11 (zlf pc 11 (o_const 0 12)) (znd pc 12 (zlf pc 12 (o_goto 16)) (zlf pc 15 (o_const 1 16)))))) (znd pc 26 (znd pc 19 (znd pc 16 (zlf pc 16 (o_putf 6 0 19)) (zlf pc 19 (o_aload 0 20))) (znd pc 20 (zlf pc 20 (o_getf 6 0 23)) (znd pc 23 (zlf pc 23 (o_ifle 30 26)) (zlf pc 26 (o_const 0 27))))) (znd pc 30 (znd pc 27 (zlf pc 27 (o_goto 35)) (zlf pc 30 (o_aload 0 31))) (znd pc 31 (zlf pc 31 (o_iload 1 32)) (znd pc 32 (zlf pc 32 (o_callv 6 90 2 2 1 35)) (zlf pc 35 (o_iret))))))
/-- RepairShopModel.meetingOf()I -/
def zc_92 (pc : Nat) : zOp := znd pc 53 (znd pc 26 (znd pc 13 (znd pc 7 (znd pc 1 (znd pc 0 (zlf pc 0 (o_aload 0 1)) (zlf pc 1 (o_callv 6 73 1 1 1 4))) (znd pc 4 (zlf pc 4 (o_ifeq 11 7)) (zlf pc 7 (o_const 0 8)))) (znd pc 11 (znd pc 8 (zlf pc 8 (o_goto 12)) (zlf pc 11 (o_const (-1) 12))) (znd pc 12 (zlf pc 12 (o_istore 1 13)) (zlf pc 13 (o_const 0 14))))) (znd pc 17 (znd pc 15 (znd pc 14 (zlf pc 14 (o_istore 2 15)) (zlf pc 15 (o_iload 2 16))) (znd pc 16 (zlf pc 16 (o_aload 0 17)) (zlf pc 17 (o_getf 6 1 20)))) (znd pc 21 (znd pc 20 (zlf pc 20 (o_const 1 21)) (zlf pc 21 (o_iald 22))) (znd pc 22 (zlf pc 22 (o_cge 112 25)) (znd pc 25 (zlf pc 25 (o_aload 0 26)) (zlf pc 26 (o_callv 6 73 1 1 1 29))))))) (znd pc 38 (znd pc 34 (znd pc 32 (znd pc 29 (zlf pc 29 (o_ifeq 112 32)) (zlf pc 32 (o_const 0 33))) (znd pc 33 (zlf pc 33 (o_istore 3 34)) (zlf pc 34 (o_iload 3 35)))) (znd pc 36 (znd pc 35 (zlf pc 35 (o_aload 0 36)) (zlf pc 36 (o_iload 2 37))) (znd pc 37 (zlf pc 37 (o_const 2 38)) (zlf pc 38 (o_callv 6 42 3 3 1 41))))) (znd pc 46 (znd pc 44 (znd pc 41 (zlf pc 41 (o_cge 106 44)) (zlf pc 44 (o_aload 0 45))) (znd pc 45 (zlf pc 45 (o_iload 2 46)) (zlf pc 46 (o_iload 3 47)))) (znd pc 48 (znd pc 47 (zlf pc 47 (o_const 2 48)) (zlf pc 48 (o_callv 6 44 4 4 1 51))) (znd pc 51 (zlf pc 51 (o_aload 0 52)) (znd pc 52 (zlf pc 52 (o_iload 2 53)) (zlf pc 53 (o_iload 3 54)))))))) (znd pc 82 (znd pc 68 (znd pc 61 (znd pc 55 (znd pc 54 (zlf pc 54 (o_const 3 55)) (zlf pc 55 (o_callv 6 44 4 4 1 58))) (znd pc 58 (zlf pc 58 (o_ceq 65 61)) (zlf pc 61 (o_const 1 62)))) (znd pc 65 (znd pc 62 (zlf pc 62 (o_goto 66)) (zlf pc 65 (o_const 0 66))) (znd pc 66 (zlf pc 66 (o_istore 4 68)) (zlf pc 68 (o_iload 4 70))))) (znd pc 75 (znd pc 73 (znd pc 70 (zlf pc 70 (o_ifeq 98 73)) (zlf pc 73 (o_aload 0 74))) (znd pc 74 (zlf pc 74 (o_iload 2 75)) (zlf pc 75 (o_iload 3 76)))) (znd pc 77 (znd pc 76 (zlf pc 76 (o_const 2 77)) (zlf pc 77 (o_callv 6 44 4 4 1 80))) (znd pc 80 (zlf pc 80 (o_const 1 81)) (znd pc 81 (zlf pc 81 (o_iadd 82)) (zlf pc 82 (o_iload 1 83))))))) (znd pc 94 (znd pc 88 (znd pc 86 (znd pc 83 (zlf pc 83 (o_cle 98 86)) (zlf pc 86 (o_aload 0 87))) (znd pc 87 (zlf pc 87 (o_iload 2 88)) (zlf pc 88 (o_iload 3 89)))) (znd pc 90 (znd pc 89 (zlf pc 89 (o_const 2 90)) (zlf pc 90 (o_callv 6 44 4 4 1 93))) (znd pc 93 (zlf pc 93 (o_const 1 94)) (zlf pc 94 (o_iadd 95))))) (znd pc 100 (znd pc 98 (znd pc 95 (zlf pc 95 (o_goto 99)) (zlf pc 98 (o_iload 1 99))) (znd pc 99 (zlf pc 99 (o_istore 1 100)) (zlf pc 100 (o_iinc 3 1 103)))) (znd pc 106 (znd pc 103 (zlf pc 103 (o_goto 34)) (zlf pc 106 (o_iinc 2 1 109))) (znd pc 109 (zlf pc 109 (o_goto 15)) (znd pc 112 (zlf pc 112 (o_iload 1 113)) (zlf pc 113 (o_iret))))))))
/-- RepairShopModel.meeting()I -/
def zc_93 (pc : Nat) : zOp := znd pc 2 (znd pc 0 (zlf pc 0 (o_aload 0 1)) (znd pc 1 (zlf pc 1 (o_const 0 2)) (zlf pc 2 (o_putf 6 0 5)))) (znd pc 5 (zlf pc 5 (o_aload 0 6)) (znd pc 6 (zlf pc 6 (o_callv 6 92 1 5 1 9)) (zlf pc 9 (o_iret))))
/-- RepairShopModel.aheadOf(II)I -/
def zc_94 (pc : Nat) : zOp := znd pc 42 (znd pc 19 (znd pc 7 (znd pc 2 (znd pc 0 (zlf pc 0 (o_const 0 1)) (znd pc 1 (zlf pc 1 (o_istore 3 2)) (zlf pc 2 (o_const 0 3)))) (znd pc 3 (zlf pc 3 (o_istore 4 5)) (znd pc 5 (zlf pc 5 (o_iload 4 7)) (zlf pc 7 (o_aload 0 8))))) (znd pc 12 (znd pc 8 (zlf pc 8 (o_getf 6 1 11)) (znd pc 11 (zlf pc 11 (o_const 1 12)) (zlf pc 12 (o_iald 13)))) (znd pc 16 (znd pc 13 (zlf pc 13 (o_cge 89 16)) (zlf pc 16 (o_const 0 17))) (znd pc 17 (zlf pc 17 (o_istore 5 19)) (zlf pc 19 (o_iload 5 21)))))) (znd pc 31 (znd pc 24 (znd pc 21 (zlf pc 21 (o_aload 0 22)) (znd pc 22 (zlf pc 22 (o_iload 4 24)) (zlf pc 24 (o_const 2 25)))) (znd pc 25 (zlf pc 25 (o_callv 6 42 3 3 1 28)) (znd pc 28 (zlf pc 28 (o_cge 83 31)) (zlf pc 31 (o_iload 3 32))))) (znd pc 35 (znd pc 32 (zlf pc 32 (o_aload 0 33)) (znd pc 33 (zlf pc 33 (o_iload 4 35)) (zlf pc 35 (o_iload 5 37)))) (znd pc 38 (znd pc 37 (zlf pc 37 (o_const 0 38)) (zlf pc 38 (o_callv 6 44 4 4 1 41))) (znd pc 41 (zlf pc 41 (o_aload 0 42)) (zlf pc 42 (o_iload 1 43))))))) (znd pc 63 (znd pc 52 (znd pc 45 (znd pc 43 (zlf pc 43 (o_iload 2 44)) (znd pc 44 (zlf pc 44 (o_const 0 45)) (zlf pc 45 (o_callv 6 44 4 4 1 48)))) (znd pc 48 (zlf pc 48 (o_cne 74 51)) (znd pc 51 (zlf pc 51 (o_aload 0 52)) (zlf pc 52 (o_iload 4 54))))) (znd pc 57 (znd pc 54 (zlf pc 54 (o_iload 5 56)) (znd pc 56 (zlf pc 56 (o_const 3 57)) (zlf pc 57 (o_callv 6 44 4 4 1 60)))) (znd pc 61 (znd pc 60 (zlf pc 60 (o_aload 0 61)) (zlf pc 61 (o_iload 1 62))) (znd pc 62 (zlf pc 62 (o_iload 2 63)) (zlf pc 63 (o_const 3 64)))))) (znd pc 75 (znd pc 70 (znd pc 64 (zlf pc 64 (o_callv 6 44 4 4 1 67)) (znd pc 67 (zlf pc 67 (o_cge 74 70)) (zlf pc 70 (o_const 1 71)))) (znd pc 71 (zlf pc 71 (o_goto 75)) (znd pc 74 (zlf pc 74 (o_const 0 75)) (zlf pc 75 (o_iadd 76))))) (znd pc 80 (znd pc 76 (zlf pc 76 (o_istore 3 77)) (znd pc 77 (zlf pc 77 (o_iinc 5 1 80)) (zlf pc 80 (o_goto 19)))) (znd pc 86 (znd pc 83 (zlf pc 83 (o_iinc 4 1 86)) (zlf pc 86 (o_goto 5))) (znd pc 89 (zlf pc 89 (o_iload 3 90)) (zlf pc 90 (o_iret)))))))
/-- RepairShopModel.onMachine(II)I -/
def zc_95 (pc : Nat) : zOp := znd pc 56 (znd pc 29 (znd pc 13 (znd pc 3 (znd pc 1 (znd pc 0 (zlf pc 0 (o_aload 0 1)) (zlf pc 1 (o_aload 0 2))) (znd pc 2 (zlf pc 2 (o_iload 1 3)) (zlf pc 3 (o_callv 6 40 2 2 1 6)))) (znd pc 9 (znd pc 6 (zlf pc 6 (o_ifeq 17 9)) (zlf pc 9 (o_iload 2 10))) (znd pc 10 (zlf pc 10 (o_iflt 17 13)) (zlf pc 13 (o_const 0 14))))) (znd pc 21 (znd pc 17 (znd pc 14 (zlf pc 14 (o_goto 18)) (zlf pc 17 (o_const 1 18))) (znd pc 18 (zlf pc 18 (o_putf 6 0 21)) (zlf pc 21 (o_aload 0 22)))) (znd pc 25 (znd pc 22 (zlf pc 22 (o_getf 6 0 25)) (zlf pc 25 (o_ifle 30 28))) (znd pc 28 (zlf pc 28 (o_const 0 29)) (zlf pc 29 (o_iret)))))) (znd pc 41 (znd pc 33 (znd pc 31 (znd pc 30 (zlf pc 30 (o_const (-1) 31)) (zlf pc 31 (o_istore 3 32))) (znd pc 32 (zlf pc 32 (o_const 0 33)) (zlf pc 33 (o_istore 4 35)))) (znd pc 37 (znd pc 35 (zlf pc 35 (o_iload 4 37)) (zlf pc 37 (o_aload 0 38))) (znd pc 38 (zlf pc 38 (o_getf 6 1 41)) (zlf pc 41 (o_const 1 42))))) (znd pc 47 (znd pc 43 (znd pc 42 (zlf pc 42 (o_iald 43)) (zlf pc 43 (o_cge 118 46))) (znd pc 46 (zlf pc 46 (o_aload 0 47)) (zlf pc 47 (o_callv 6 73 1 1 1 50)))) (znd pc 53 (znd pc 50 (zlf pc 50 (o_ifeq 118 53)) (zlf pc 53 (o_const 0 54))) (znd pc 54 (zlf pc 54 (o_istore 5 56)) (zlf pc 56 (o_iload 5 58))))))) (znd pc 86 (znd pc 71 (znd pc 62 (znd pc 59 (znd pc 58 (zlf pc 58 (o_aload 0 59)) (zlf pc 59 (o_iload 4 61))) (znd pc 61 (zlf pc 61 (o_const 2 62)) (zlf pc 62 (o_callv 6 42 3 3 1 65)))) (znd pc 68 (znd pc 65 (zlf pc 65 (o_cge 112 68)) (zlf pc 68 (o_aload 0 69))) (znd pc 69 (zlf pc 69 (o_iload 4 71)) (zlf pc 71 (o_iload 5 73))))) (znd pc 78 (znd pc 74 (znd pc 73 (zlf pc 73 (o_const 0 74)) (zlf pc 74 (o_callv 6 44 4 4 1 77))) (znd pc 77 (zlf pc 77 (o_iload 1 78)) (zlf pc 78 (o_cne 104 81)))) (znd pc 82 (znd pc 81 (zlf pc 81 (o_aload 0 82)) (zlf pc 82 (o_iload 4 84))) (znd pc 84 (zlf pc 84 (o_iload 5 86)) (zlf pc 86 (o_callv 6 94 3 6 1 89)))))) (znd pc 101 (znd pc 95 (znd pc 90 (znd pc 89 (zlf pc 89 (o_iload 2 90)) (zlf pc 90 (o_cne 104 93))) (znd pc 93 (zlf pc 93 (o_const 10 95)) (zlf pc 95 (o_iload 4 97)))) (znd pc 98 (znd pc 97 (zlf pc 97 (o_imul 98)) (zlf pc 98 (o_iload 5 100))) (znd pc 100 (zlf pc 100 (o_iadd 101)) (zlf pc 101 (o_goto 105))))) (znd pc 109 (znd pc 105 (znd pc 104 (zlf pc 104 (o_iload 3 105)) (zlf pc 105 (o_istore 3 106))) (znd pc 106 (zlf pc 106 (o_iinc 5 1 109)) (zlf pc 109 (o_goto 56)))) (znd pc 115 (znd pc 112 (zlf pc 112 (o_iinc 4 1 115)) (zlf pc 115 (o_goto 35))) (znd pc 118 (zlf pc 118 (o_iload 3 119)) (zlf pc 119 (o_iret)))))))
/-- RepairShopModel.latenessPlanned(I)I -/
def zc_96 (pc : Nat) : zOp := znd pc 18 (znd pc 6 (znd pc 1 (znd pc 0 (zlf pc 0 (o_aload 0 1)) (zlf pc 1 (o_getf 6 1 4))) (znd pc 4 (zlf pc 4 (o_const 0 5)) (znd pc 5 (zlf pc 5 (o_aload 0 6)) (zlf pc 6 (o_getf 6 2 9))))) (znd pc 13 (znd pc 9 (zlf pc 9 (o_const 0 10)) (znd pc 10 (zlf pc 10 (o_call 37 4 5 0 13)) (zlf pc 13 (o_aload 0 14)))) (znd pc 14 (zlf pc 14 (o_iload 1 15)) (znd pc 15 (zlf pc 15 (o_callv 6 68 2 4 0 18)) (zlf pc 18 (o_aload 0 19)))))) (znd pc 28 (znd pc 23 (znd pc 19 (zlf pc 19 (o_const 3 20)) (znd pc 20 (zlf pc 20 (o_callv 6 66 2 4 1 23)) (zlf pc 23 (o_istore 2 24)))) (znd pc 24 (zlf pc 24 (o_aload 0 25)) (znd pc 25 (zlf pc 25 (o_getf 6 2 28)) (zlf pc 28 (o_const 0 29))))) (znd pc 33 (znd pc 29 (zlf pc 29 (o_aload 0 30)) (znd pc 30 (zlf pc 30 (o_getf 6 1 33)) (zlf pc 33 (o_const 0 34)))) (znd pc 34 (zlf pc 34 (o_call 37 4 5 0 37)) (znd pc 37 (zlf pc 37 (o_iload 2 38)) (zlf pc 38 (o_iret))))))
/-- RepairShopModel.latenessBy(I)I -/
def zc_97 (pc : Nat) : zOp := znd pc 13 (znd pc 5 (znd pc 1 (znd pc 0 (zlf pc 0 (o_aload 0 1)) (zlf pc 1 (o_iload 1 2))) (znd pc 2 (zlf pc 2 (o_call 69 1 1 1 5)) (zlf pc 5 (o_ifeq 12 8)))) (znd pc 9 (znd pc 8 (zlf pc 8 (o_const 0 9)) (zlf pc 9 (o_goto 13))) (znd pc 12 (zlf pc 12 (o_const 1 13)) (zlf pc 13 (o_putf 6 0 16))))) (znd pc 23 (znd pc 17 (znd pc 16 (zlf pc 16 (o_aload 0 17)) (zlf pc 17 (o_getf 6 0 20))) (znd pc 20 (zlf pc 20 (o_ifle 27 23)) (zlf pc 23 (o_const 0 24)))) (znd pc 27 (znd pc 24 (zlf pc 24 (o_goto 32)) (zlf pc 27 (o_aload 0 28))) (znd pc 28 (zlf pc 28 (o_iload 1 29)) (znd pc 29 (zlf pc 29 (o_callv 6 96 2 3 1 32)) (zlf pc 32 (o_iret))))))
/-- RepairShopModel.bestRule()I -/
def zc_98 (pc : Nat) : zOp := znd pc 15 (znd pc 7 (znd pc 2 (znd pc 0 (zlf pc 0 (o_aload 0 1)) (znd pc 1 (zlf pc 1 (o_const 0 2)) (zlf pc 2 (o_putf 6 0 5)))) (znd pc 5 (zlf pc 5 (o_const 0 6)) (znd pc 6 (zlf pc 6 (o_istore 1 7)) (zlf pc 7 (o_const 1 8))))) (znd pc 10 (znd pc 8 (zlf pc 8 (o_istore 2 9)) (znd pc 9 (zlf pc 9 (o_iload 2 10)) (zlf pc 10 (o_const 4 11)))) (znd pc 11 (zlf pc 11 (o_cge 39 14)) (znd pc 14 (zlf pc 14 (o_aload 0 15)) (zlf pc 15 (o_iload 2 16)))))) (znd pc 27 (znd pc 20 (znd pc 16 (zlf pc 16 (o_callv 6 96 2 3 1 19)) (znd pc 19 (zlf pc 19 (o_aload 0 20)) (zlf pc 20 (o_iload 1 21)))) (znd pc 21 (zlf pc 21 (o_callv 6 96 2 3 1 24)) (znd pc 24 (zlf pc 24 (o_cge 31 27)) (zlf pc 27 (o_iload 2 28))))) (znd pc 32 (znd pc 28 (zlf pc 28 (o_goto 32)) (znd pc 31 (zlf pc 31 (o_iload 1 32)) (zlf pc 32 (o_istore 1 33)))) (znd pc 36 (znd pc 33 (zlf pc 33 (o_iinc 2 1 36)) (zlf pc 36 (o_goto 9))) (znd pc 39 (zlf pc 39 (o_iload 1 40)) (zlf pc 40 (o_iret))))))
/-- RepairShopModel.latenessOfShift()I -/
def zc_99 (pc : Nat) : zOp := znd pc 22 (znd pc 9 (znd pc 4 (znd pc 0 (zlf pc 0 (o_aload 0 1)) (znd pc 1 (zlf pc 1 (o_callv 6 73 1 1 1 4)) (zlf pc 4 (o_ifne 9 7)))) (znd pc 7 (zlf pc 7 (o_const (-1) 8)) (znd pc 8 (zlf pc 8 (o_iret)) (zlf pc 9 (o_aload 0 10))))) (znd pc 14 (znd pc 10 (zlf pc 10 (o_getf 6 1 13)) (znd pc 13 (zlf pc 13 (o_const 0 14)) (zlf pc 14 (o_aload 0 15)))) (znd pc 18 (znd pc 15 (zlf pc 15 (o_getf 6 2 18)) (zlf pc 18 (o_const 0 19))) (znd pc 19 (zlf pc 19 (o_call 37 4 5 0 22)) (zlf pc 22 (o_aload 0 23)))))) (znd pc 33 (znd pc 27 (znd pc 23 (zlf pc 23 (o_callv 6 72 1 5 0 26)) (znd pc 26 (zlf pc 26 (o_aload 0 27)) (zlf pc 27 (o_const 3 28)))) (znd pc 31 (znd pc 28 (zlf pc 28 (o_callv 6 66 2 4 1 31)) (zlf pc 31 (o_istore 1 32))) (znd pc 32 (zlf pc 32 (o_aload 0 33)) (zlf pc 33 (o_getf 6 2 36))))) (znd pc 38 (znd pc 36 (zlf pc 36 (o_const 0 37)) (znd pc 37 (zlf pc 37 (o_aload 0 38)) (zlf pc 38 (o_getf 6 1 41)))) (znd pc 42 (znd pc 41 (zlf pc 41 (o_const 0 42)) (zlf pc 42 (o_call 37 4 5 0 45))) (znd pc 45 (zlf pc 45 (o_iload 1 46)) (zlf pc 46 (o_iret))))))
/-- RepairShopModel.latenessShifted()I -/
def zc_100 (pc : Nat) : zOp := znd pc 2 (znd pc 0 (zlf pc 0 (o_aload 0 1)) (znd pc 1 (zlf pc 1 (o_const 0 2)) (zlf pc 2 (o_putf 6 0 5)))) (znd pc 5 (zlf pc 5 (o_aload 0 6)) (znd pc 6 (zlf pc 6 (o_callv 6 99 1 2 1 9)) (zlf pc 9 (o_iret))))
/-- RepairShopModel.bestReplan(I)I -/
def zc_101 (pc : Nat) : zOp := znd pc 77 (znd pc 42 (znd pc 17 (znd pc 8 (znd pc 1 (znd pc 0 (zlf pc 0 (o_aload 0 1)) (zlf pc 1 (o_iload 1 2))) (znd pc 2 (zlf pc 2 (o_call 76 1 1 1 5)) (znd pc 5 (zlf pc 5 (o_ifeq 12 8)) (zlf pc 8 (o_const 0 9))))) (znd pc 12 (znd pc 9 (zlf pc 9 (o_goto 13)) (zlf pc 12 (o_const 1 13))) (znd pc 13 (zlf pc 13 (o_putf 6 0 16)) (znd pc 16 (zlf pc 16 (o_aload 0 17)) (zlf pc 17 (o_getf 6 0 20)))))) (znd pc 30 (znd pc 23 (znd pc 20 (zlf pc 20 (o_ifgt 30 23)) (zlf pc 23 (o_aload 0 24))) (znd pc 24 (zlf pc 24 (o_callv 6 73 1 1 1 27)) (znd pc 27 (zlf pc 27 (o_ifne 43 30)) (zlf pc 30 (o_aload 0 31))))) (znd pc 37 (znd pc 31 (zlf pc 31 (o_getf 6 0 34)) (znd pc 34 (zlf pc 34 (o_ifle 41 37)) (zlf pc 37 (o_const 0 38)))) (znd pc 38 (zlf pc 38 (o_goto 42)) (znd pc 41 (zlf pc 41 (o_const (-1) 42)) (zlf pc 42 (o_iret))))))) (znd pc 57 (znd pc 47 (znd pc 44 (znd pc 43 (zlf pc 43 (o_const (-1) 44)) (zlf pc 44 (o_istore 2 45))) (znd pc 45 (zlf pc 45 (o_const 0 46)) (znd pc 46 (zlf pc 46 (o_istore 3 47)) (zlf pc 47 (o_aload 0 48))))) (znd pc 52 (znd pc 48 (zlf pc 48 (o_getf 6 1 51)) (znd pc 51 (zlf pc 51 (o_const 0 52)) (zlf pc 52 (o_aload 0 53)))) (znd pc 53 (zlf pc 53 (o_getf 6 2 56)) (znd pc 56 (zlf pc 56 (o_const 0 57)) (zlf pc 57 (o_call 37 4 5 0 60)))))) (znd pc 66 (znd pc 61 (znd pc 60 (zlf pc 60 (o_const 0 61)) (zlf pc 61 (o_istore 4 63))) (znd pc 63 (zlf pc 63 (o_iload 4 65)) (znd pc 65 (zlf pc 65 (o_const 4 66)) (zlf pc 66 (o_cge 144 69))))) (znd pc 71 (znd pc 69 (zlf pc 69 (o_aload 0 70)) (znd pc 70 (zlf pc 70 (o_iload 1 71)) (zlf pc 71 (o_iload 4 73)))) (znd pc 73 (zlf pc 73 (o_callv 6 75 3 7 0 76)) (znd pc 76 (zlf pc 76 (o_aload 0 77)) (zlf pc 77 (o_const 3 78)))))))) (znd pc 120 (znd pc 98 (znd pc 85 (znd pc 81 (znd pc 78 (zlf pc 78 (o_callv 6 66 2 4 1 81)) (zlf pc 81 (o_istore 5 83))) (znd pc 83 (zlf pc 83 (o_iload 2 84)) (znd pc 84 (zlf pc 84 (o_const (-1) 85)) (zlf pc 85 (o_ceq 94 88))))) (znd pc 91 (znd pc 88 (zlf pc 88 (o_iload 5 90)) (znd pc 90 (zlf pc 90 (o_iload 3 91)) (zlf pc 91 (o_cge 98 94)))) (znd pc 94 (zlf pc 94 (o_const 1 95)) (znd pc 95 (zlf pc 95 (o_goto 99)) (zlf pc 98 (o_const 0 99)))))) (znd pc 108 (znd pc 101 (znd pc 99 (zlf pc 99 (o_istore 6 101)) (zlf pc 101 (o_iload 6 103))) (znd pc 103 (zlf pc 103 (o_ifeq 111 106)) (znd pc 106 (zlf pc 106 (o_iload 4 108)) (zlf pc 108 (o_goto 112))))) (znd pc 113 (znd pc 111 (zlf pc 111 (o_iload 2 112)) (znd pc 112 (zlf pc 112 (o_istore 2 113)) (zlf pc 113 (o_iload 6 115)))) (znd pc 115 (zlf pc 115 (o_ifeq 123 118)) (znd pc 118 (zlf pc 118 (o_iload 5 120)) (zlf pc 120 (o_goto 124))))))) (znd pc 141 (znd pc 129 (znd pc 124 (znd pc 123 (zlf pc 123 (o_iload 3 124)) (zlf pc 124 (o_istore 3 125))) (znd pc 125 (zlf pc 125 (o_aload 0 126)) (znd pc 126 (zlf pc 126 (o_getf 6 2 129)) (zlf pc 129 (o_const 0 130))))) (znd pc 134 (znd pc 130 (zlf pc 130 (o_aload 0 131)) (znd pc 131 (zlf pc 131 (o_getf 6 1 134)) (zlf pc 134 (o_const 0 135)))) (znd pc 135 (zlf pc 135 (o_call 37 4 5 0 138)) (znd pc 138 (zlf pc 138 (o_iinc 4 1 141)) (zlf pc 141 (o_goto 63)))))) (znd pc 149 (znd pc 146 (znd pc 144 (zlf pc 144 (o_const 1000000 146)) (zlf pc 146 (o_iload 2 147))) (znd pc 147 (zlf pc 147 (o_imul 148)) (znd pc 148 (zlf pc 148 (o_iload 3 149)) (zlf pc 149 (o_const 999999 151))))) (znd pc 155 (znd pc 151 (zlf pc 151 (o_cge 158 154)) (znd pc 154 (zlf pc 154 (o_iload 3 155)) (zlf pc 155 (o_goto 160)))) (znd pc 158 (zlf pc 158 (o_const 999999 160)) (znd pc 160 (zlf pc 160 (o_iadd 161)) (zlf pc 161 (o_iret))))))))
/-- RepairShopModel.bestOvertime(I)I -/
def zc_102 (pc : Nat) : zOp := znd pc 83 (znd pc 38 (znd pc 20 (znd pc 8 (znd pc 1 (znd pc 0 (zlf pc 0 (o_aload 0 1)) (zlf pc 1 (o_iload 1 2))) (znd pc 2 (zlf pc 2 (o_call 69 1 1 1 5)) (znd pc 5 (zlf pc 5 (o_ifeq 12 8)) (zlf pc 8 (o_const 0 9))))) (znd pc 13 (znd pc 9 (zlf pc 9 (o_goto 13)) (znd pc 12 (zlf pc 12 (o_const 1 13)) (zlf pc 13 (o_putf 6 0 16)))) (znd pc 16 (zlf pc 16 (o_aload 0 17)) (znd pc 17 (zlf pc 17 (o_getf 6 0 20)) (zlf pc 20 (o_ifle 25 23)))))) (znd pc 28 (znd pc 25 (znd pc 23 (zlf pc 23 (o_const 0 24)) (znd pc 24 (zlf pc 24 (o_iret)) (zlf pc 25 (o_const (-1) 26)))) (znd pc 26 (zlf pc 26 (o_istore 2 27)) (znd pc 27 (zlf pc 27 (o_aload 0 28)) (zlf pc 28 (o_iload 1 29))))) (znd pc 33 (znd pc 29 (zlf pc 29 (o_callv 6 96 2 3 1 32)) (znd pc 32 (zlf pc 32 (o_istore 3 33)) (zlf pc 33 (o_const 0 34)))) (znd pc 34 (zlf pc 34 (o_istore 4 36)) (znd pc 36 (zlf pc 36 (o_iload 4 38)) (zlf pc 38 (o_aload 0 39))))))) (znd pc 59 (znd pc 48 (znd pc 43 (znd pc 39 (zlf pc 39 (o_getf 6 1 42)) (znd pc 42 (zlf pc 42 (o_const 1 43)) (zlf pc 43 (o_iald 44)))) (znd pc 44 (zlf pc 44 (o_cge 162 47)) (znd pc 47 (zlf pc 47 (o_const 0 48)) (zlf pc 48 (o_istore 5 50))))) (znd pc 53 (znd pc 50 (zlf pc 50 (o_iload 5 52)) (znd pc 52 (zlf pc 52 (o_aload 0 53)) (zlf pc 53 (o_iload 4 55)))) (znd pc 55 (zlf pc 55 (o_const 2 56)) (znd pc 56 (zlf pc 56 (o_callv 6 42 3 3 1 59)) (zlf pc 59 (o_cge 156 62)))))) (znd pc 71 (znd pc 65 (znd pc 62 (zlf pc 62 (o_aload 0 63)) (znd pc 63 (zlf pc 63 (o_iload 4 65)) (zlf pc 65 (o_iload 5 67)))) (znd pc 67 (zlf pc 67 (o_const 1 68)) (znd pc 68 (zlf pc 68 (o_callv 6 44 4 4 1 71)) (zlf pc 71 (o_const 1 72))))) (znd pc 76 (znd pc 72 (zlf pc 72 (o_cle 150 75)) (znd pc 75 (zlf pc 75 (o_aload 0 76)) (zlf pc 76 (o_getf 6 1 79)))) (znd pc 79 (zlf pc 79 (o_iload 4 81)) (znd pc 81 (zlf pc 81 (o_iload 5 83)) (zlf pc 83 (o_call 43 2 2 1 86)))))))) (znd pc 117 (znd pc 98 (znd pc 90 (znd pc 87 (znd pc 86 (zlf pc 86 (o_const 1 87)) (zlf pc 87 (o_iadd 88))) (znd pc 88 (zlf pc 88 (o_dup2 89)) (znd pc 89 (zlf pc 89 (o_iald 90)) (zlf pc 90 (o_const 1 91))))) (znd pc 93 (znd pc 91 (zlf pc 91 (o_isub 92)) (znd pc 92 (zlf pc 92 (o_iast 93)) (zlf pc 93 (o_aload 0 94)))) (znd pc 94 (zlf pc 94 (o_iload 1 95)) (znd pc 95 (zlf pc 95 (o_callv 6 96 2 3 1 98)) (zlf pc 98 (o_istore 6 100)))))) (znd pc 111 (znd pc 104 (znd pc 100 (zlf pc 100 (o_aload 0 101)) (znd pc 101 (zlf pc 101 (o_getf 6 1 104)) (zlf pc 104 (o_iload 4 106)))) (znd pc 106 (zlf pc 106 (o_iload 5 108)) (znd pc 108 (zlf pc 108 (o_call 43 2 2 1 111)) (zlf pc 111 (o_const 1 112))))) (znd pc 114 (znd pc 112 (zlf pc 112 (o_iadd 113)) (znd pc 113 (zlf pc 113 (o_dup2 114)) (zlf pc 114 (o_iald 115)))) (znd pc 115 (zlf pc 115 (o_const 1 116)) (znd pc 116 (zlf pc 116 (o_iadd 117)) (zlf pc 117 (o_iast 118))))))) (znd pc 137 (znd pc 128 (znd pc 121 (znd pc 118 (zlf pc 118 (o_iload 6 120)) (znd pc 120 (zlf pc 120 (o_iload 3 121)) (zlf pc 121 (o_cge 135 124)))) (znd pc 124 (zlf pc 124 (o_const 10 126)) (znd pc 126 (zlf pc 126 (o_iload 4 128)) (zlf pc 128 (o_imul 129))))) (znd pc 132 (znd pc 129 (zlf pc 129 (o_iload 5 131)) (znd pc 131 (zlf pc 131 (o_iadd 132)) (zlf pc 132 (o_goto 136)))) (znd pc 135 (zlf pc 135 (o_iload 2 136)) (znd pc 136 (zlf pc 136 (o_istore 2 137)) (zlf pc 137 (o_iload 6 139)))))) (znd pc 149 (znd pc 143 (znd pc 139 (zlf pc 139 (o_iload 3 140)) (znd pc 140 (zlf pc 140 (o_cge 148 143)) (zlf pc 143 (o_iload 6 145)))) (znd pc 145 (zlf pc 145 (o_goto 149)) (znd pc 148 (zlf pc 148 (o_iload 3 149)) (zlf pc 149 (o_istore 3 150))))) (znd pc 156 (znd pc 150 (zlf pc 150 (o_iinc 5 1 153)) (znd pc 153 (zlf pc 153 (o_goto 50)) (zlf pc 156 (o_iinc 4 1 159)))) (znd pc 159 (zlf pc 159 (o_goto 36)) (znd pc 162 (zlf pc 162 (o_iload 2 163)) (zlf pc 163 (o_iret))))))))
/-- RepairShopModel.append(I)I -/
def zc_103 (pc : Nat) : zOp := znd pc 33 (znd pc 15 (znd pc 3 (znd pc 1 (znd pc 0 (zlf pc 0 (o_aload 0 1)) (zlf pc 1 (o_iload 1 2))) (znd pc 2 (zlf pc 2 (o_const 0 3)) (zlf pc 3 (o_const 127 5)))) (znd pc 8 (znd pc 5 (zlf pc 5 (o_call 38 3 3 1 8)) (zlf pc 8 (o_ifne 15 11))) (znd pc 11 (zlf pc 11 (o_const 1 12)) (znd pc 12 (zlf pc 12 (o_goto 29)) (zlf pc 15 (o_aload 0 16)))))) (znd pc 24 (znd pc 19 (znd pc 16 (zlf pc 16 (o_getf 6 6 19)) (zlf pc 19 (o_const 100 21))) (znd pc 21 (zlf pc 21 (o_cne 28 24)) (zlf pc 24 (o_const 2 25)))) (znd pc 28 (znd pc 25 (zlf pc 25 (o_goto 29)) (zlf pc 28 (o_const 0 29))) (znd pc 29 (zlf pc 29 (o_putf 6 0 32)) (znd pc 32 (zlf pc 32 (o_aload 0 33)) (zlf pc 33 (o_getf 6 0 36))))))) (znd pc 50 (znd pc 41 (znd pc 39 (znd pc 36 (zlf pc 36 (o_ifle 41 39)) (zlf pc 39 (o_const 0 40))) (znd pc 40 (zlf pc 40 (o_iret)) (zlf pc 41 (o_aload 0 42)))) (znd pc 45 (znd pc 42 (zlf pc 42 (o_getf 6 5 45)) (zlf pc 45 (o_aload 0 46))) (znd pc 46 (zlf pc 46 (o_getf 6 6 49)) (znd pc 49 (zlf pc 49 (o_iload 1 50)) (zlf pc 50 (o_iast 51)))))) (znd pc 56 (znd pc 52 (znd pc 51 (zlf pc 51 (o_aload 0 52)) (zlf pc 52 (o_dup 53))) (znd pc 53 (zlf pc 53 (o_getf 6 6 56)) (zlf pc 56 (o_const 1 57)))) (znd pc 58 (znd pc 57 (zlf pc 57 (o_iadd 58)) (zlf pc 58 (o_putf 6 6 61))) (znd pc 61 (zlf pc 61 (o_aload 0 62)) (znd pc 62 (zlf pc 62 (o_getf 6 6 65)) (zlf pc 65 (o_iret)))))))
/-- RepairShopModel.clearText()I -/
def zc_104 (pc : Nat) : zOp := znd pc 6 (znd pc 1 (znd pc 0 (zlf pc 0 (o_aload 0 1)) (zlf pc 1 (o_const 0 2))) (znd pc 2 (zlf pc 2 (o_putf 6 0 5)) (znd pc 5 (zlf pc 5 (o_aload 0 6)) (zlf pc 6 (o_getf 6 6 9))))) (znd pc 11 (znd pc 9 (zlf pc 9 (o_istore 1 10)) (znd pc 10 (zlf pc 10 (o_aload 0 11)) (zlf pc 11 (o_const 0 12)))) (znd pc 12 (zlf pc 12 (o_putf 6 6 15)) (znd pc 15 (zlf pc 15 (o_iload 1 16)) (zlf pc 16 (o_iret)))))
/-- RepairShopModel.next()I -/
def zc_105 (pc : Nat) : zOp := znd pc 11 (znd pc 4 (znd pc 0 (zlf pc 0 (o_aload 0 1)) (znd pc 1 (zlf pc 1 (o_getf 6 7 4)) (zlf pc 4 (o_aload 0 5)))) (znd pc 5 (zlf pc 5 (o_getf 6 6 8)) (znd pc 8 (zlf pc 8 (o_cge 23 11)) (zlf pc 11 (o_aload 0 12))))) (znd pc 16 (znd pc 12 (zlf pc 12 (o_getf 6 5 15)) (znd pc 15 (zlf pc 15 (o_aload 0 16)) (zlf pc 16 (o_getf 6 7 19)))) (znd pc 20 (znd pc 19 (zlf pc 19 (o_iald 20)) (zlf pc 20 (o_goto 24))) (znd pc 23 (zlf pc 23 (o_const (-1) 24)) (zlf pc 24 (o_iret)))))
/-- RepairShopModel.takes(I)Z -/
def zc_106 (pc : Nat) : zOp := znd pc 15 (znd pc 8 (znd pc 1 (znd pc 0 (zlf pc 0 (o_aload 0 1)) (zlf pc 1 (o_callv 6 105 1 1 1 4))) (znd pc 4 (zlf pc 4 (o_iload 1 5)) (znd pc 5 (zlf pc 5 (o_cne 12 8)) (zlf pc 8 (o_const 1 9))))) (znd pc 12 (znd pc 9 (zlf pc 9 (o_goto 13)) (zlf pc 12 (o_const 0 13))) (znd pc 13 (zlf pc 13 (o_istore 2 14)) (znd pc 14 (zlf pc 14 (o_aload 0 15)) (zlf pc 15 (o_dup 16)))))) (znd pc 24 (znd pc 19 (znd pc 16 (zlf pc 16 (o_getf 6 7 19)) (zlf pc 19 (o_iload 2 20))) (znd pc 20 (zlf pc 20 (o_ifeq 27 23)) (znd pc 23 (zlf pc 23 (o_const 1 24)) (zlf pc 24 (o_goto 28))))) (znd pc 28 (znd pc 27 (zlf pc 27 (o_const 0 28)) (zlf pc 28 (o_iadd 29))) (znd pc 29 (zlf pc 29 (o_putf 6 7 32)) (znd pc 32 (zlf pc 32 (o_iload 2 33)) (zlf pc 33 (o_zret))))))
/-- RepairShopModel.digit(II)I -/
def zc_107 (pc : Nat) : zOp := znd pc 28 (znd pc 12 (znd pc 6 (znd pc 1 (znd pc 0 (zlf pc 0 (o_aload 0 1)) (zlf pc 1 (o_callv 6 105 1 1 1 4))) (znd pc 4 (zlf pc 4 (o_const 48 6)) (zlf pc 6 (o_isub 7)))) (znd pc 8 (znd pc 7 (zlf pc 7 (o_istore 3 8)) (zlf pc 8 (o_aload 0 9))) (znd pc 9 (zlf pc 9 (o_callv 6 105 1 1 1 12)) (zlf pc 12 (o_iflt 28 15))))) (znd pc 18 (znd pc 16 (znd pc 15 (zlf pc 15 (o_iload 3 16)) (zlf pc 16 (o_iload 1 17))) (znd pc 17 (zlf pc 17 (o_iload 2 18)) (zlf pc 18 (o_call 38 3 3 1 21)))) (znd pc 24 (znd pc 21 (zlf pc 21 (o_ifeq 28 24)) (zlf pc 24 (o_const 1 25))) (znd pc 25 (zlf pc 25 (o_goto 29)) (zlf pc 28 (o_const 0 29)))))) (znd pc 42 (znd pc 33 (znd pc 31 (znd pc 29 (zlf pc 29 (o_istore 4 31)) (zlf pc 31 (o_aload 0 32))) (znd pc 32 (zlf pc 32 (o_dup 33)) (zlf pc 33 (o_getf 6 7 36)))) (znd pc 38 (znd pc 36 (zlf pc 36 (o_iload 4 38)) (zlf pc 38 (o_ifeq 45 41))) (znd pc 41 (zlf pc 41 (o_const 1 42)) (zlf pc 42 (o_goto 46))))) (znd pc 50 (znd pc 46 (znd pc 45 (zlf pc 45 (o_const 0 46)) (zlf pc 46 (o_iadd 47))) (znd pc 47 (zlf pc 47 (o_putf 6 7 50)) (zlf pc 50 (o_iload 4 52)))) (znd pc 55 (znd pc 52 (zlf pc 52 (o_ifeq 59 55)) (zlf pc 55 (o_iload 3 56))) (znd pc 56 (zlf pc 56 (o_goto 60)) (znd pc 59 (zlf pc 59 (o_const (-1) 60)) (zlf pc 60 (o_iret)))))))
/-- RepairShopModel.number(III)I -/
def zc_108 (pc : Nat) : zOp := znd pc 50 (znd pc 24 (znd pc 10 (znd pc 4 (znd pc 0 (zlf pc 0 (o_aload 0 1)) (znd pc 1 (zlf pc 1 (o_getf 6 7 4)) (zlf pc 4 (o_istore 4 6)))) (znd pc 7 (znd pc 6 (zlf pc 6 (o_const 0 7)) (zlf pc 7 (o_istore 5 9))) (znd pc 9 (zlf pc 9 (o_aload 0 10)) (zlf pc 10 (o_getf 6 7 13))))) (znd pc 16 (znd pc 13 (zlf pc 13 (o_iload 4 15)) (znd pc 15 (zlf pc 15 (o_isub 16)) (zlf pc 16 (o_iload 1 17)))) (znd pc 20 (znd pc 17 (zlf pc 17 (o_cge 62 20)) (zlf pc 20 (o_aload 0 21))) (znd pc 21 (zlf pc 21 (o_callv 6 105 1 1 1 24)) (zlf pc 24 (o_const 48 26)))))) (znd pc 39 (znd pc 31 (znd pc 26 (zlf pc 26 (o_const 57 28)) (znd pc 28 (zlf pc 28 (o_call 38 3 3 1 31)) (zlf pc 31 (o_ifeq 62 34)))) (znd pc 36 (znd pc 34 (zlf pc 34 (o_const 10 36)) (zlf pc 36 (o_iload 5 38))) (znd pc 38 (zlf pc 38 (o_imul 39)) (zlf pc 39 (o_aload 0 40))))) (znd pc 44 (znd pc 40 (zlf pc 40 (o_callv 6 105 1 1 1 43)) (znd pc 43 (zlf pc 43 (o_iadd 44)) (zlf pc 44 (o_const 48 46)))) (znd pc 47 (znd pc 46 (zlf pc 46 (o_isub 47)) (zlf pc 47 (o_istore 5 49))) (znd pc 49 (zlf pc 49 (o_aload 0 50)) (zlf pc 50 (o_dup 51))))))) (znd pc 79 (znd pc 63 (znd pc 55 (znd pc 51 (zlf pc 51 (o_getf 6 7 54)) (znd pc 54 (zlf pc 54 (o_const 1 55)) (zlf pc 55 (o_iadd 56)))) (znd pc 59 (znd pc 56 (zlf pc 56 (o_putf 6 7 59)) (zlf pc 59 (o_goto 9))) (znd pc 62 (zlf pc 62 (o_aload 0 63)) (zlf pc 63 (o_getf 6 7 66))))) (znd pc 71 (znd pc 66 (zlf pc 66 (o_iload 4 68)) (znd pc 68 (zlf pc 68 (o_ceq 85 71)) (zlf pc 71 (o_aload 0 72)))) (znd pc 75 (znd pc 72 (zlf pc 72 (o_callv 6 105 1 1 1 75)) (zlf pc 75 (o_const 48 77))) (znd pc 77 (zlf pc 77 (o_const 57 79)) (zlf pc 79 (o_call 38 3 3 1 82)))))) (znd pc 91 (znd pc 86 (znd pc 82 (zlf pc 82 (o_ifeq 87 85)) (znd pc 85 (zlf pc 85 (o_const (-1) 86)) (zlf pc 86 (o_iret)))) (znd pc 89 (znd pc 87 (zlf pc 87 (o_iload 5 89)) (zlf pc 89 (o_iload 2 90))) (znd pc 90 (zlf pc 90 (o_iload 3 91)) (zlf pc 91 (o_call 38 3 3 1 94))))) (znd pc 100 (znd pc 97 (znd pc 94 (zlf pc 94 (o_ifne 105 97)) (zlf pc 97 (o_aload 0 98))) (znd pc 98 (zlf pc 98 (o_iload 4 100)) (zlf pc 100 (o_putf 6 7 103)))) (znd pc 104 (znd pc 103 (zlf pc 103 (o_const (-1) 104)) (zlf pc 104 (o_iret))) (znd pc 105 (zlf pc 105 (o_iload 5 107)) (zlf pc 107 (o_iret)))))))
/-- RepairShopModel.readsJob()Z -/
def zc_109 (pc : Nat) : zOp := znd pc 28 (znd pc 11 (znd pc 2 (znd pc 0 (zlf pc 0 (o_aload 0 1)) (znd pc 1 (zlf pc 1 (o_aload 0 2)) (zlf pc 2 (o_const 1 3)))) (znd pc 5 (znd pc 3 (zlf pc 3 (o_const 9 5)) (zlf pc 5 (o_callv 6 107 3 5 1 8))) (znd pc 8 (zlf pc 8 (o_putf 6 9 11)) (zlf pc 11 (o_aload 0 12))))) (znd pc 19 (znd pc 15 (znd pc 12 (zlf pc 12 (o_getf 6 9 15)) (zlf pc 15 (o_const (-1) 16))) (znd pc 16 (zlf pc 16 (o_ceq 28 19)) (zlf pc 19 (o_aload 0 20)))) (znd pc 22 (znd pc 20 (zlf pc 20 (o_const 44 22)) (zlf pc 22 (o_callv 6 106 2 3 1 25))) (znd pc 25 (zlf pc 25 (o_ifne 30 28)) (zlf pc 28 (o_const 0 29)))))) (znd pc 40 (znd pc 32 (znd pc 30 (znd pc 29 (zlf pc 29 (o_zret)) (zlf pc 30 (o_aload 0 31))) (znd pc 31 (zlf pc 31 (o_aload 0 32)) (zlf pc 32 (o_const 3 33)))) (znd pc 34 (znd pc 33 (zlf pc 33 (o_const 0 34)) (zlf pc 34 (o_const 999 37))) (znd pc 37 (zlf pc 37 (o_callv 6 108 4 6 1 40)) (zlf pc 40 (o_putf 6 10 43))))) (znd pc 48 (znd pc 44 (znd pc 43 (zlf pc 43 (o_aload 0 44)) (zlf pc 44 (o_getf 6 10 47))) (znd pc 47 (zlf pc 47 (o_const (-1) 48)) (zlf pc 48 (o_ceq 55 51)))) (znd pc 52 (znd pc 51 (zlf pc 51 (o_const 1 52)) (zlf pc 52 (o_goto 56))) (znd pc 55 (zlf pc 55 (o_const 0 56)) (zlf pc 56 (o_zret))))))
/-- RepairShopModel.readsOperation()Z -/
def zc_110 (pc : Nat) : zOp := znd pc 34 (znd pc 15 (znd pc 4 (znd pc 1 (znd pc 0 (zlf pc 0 (o_aload 0 1)) (zlf pc 1 (o_aload 0 2))) (znd pc 2 (zlf pc 2 (o_const 0 3)) (znd pc 3 (zlf pc 3 (o_const 5 4)) (zlf pc 4 (o_callv 6 107 3 5 1 7))))) (znd pc 10 (znd pc 7 (zlf pc 7 (o_putf 6 9 10)) (zlf pc 10 (o_aload 0 11))) (znd pc 11 (zlf pc 11 (o_getf 6 9 14)) (znd pc 14 (zlf pc 14 (o_const (-1) 15)) (zlf pc 15 (o_cne 20 18)))))) (znd pc 22 (znd pc 19 (znd pc 18 (zlf pc 18 (o_const 0 19)) (zlf pc 19 (o_zret))) (znd pc 20 (zlf pc 20 (o_aload 0 21)) (znd pc 21 (zlf pc 21 (o_aload 0 22)) (zlf pc 22 (o_const 0 23))))) (znd pc 27 (znd pc 23 (zlf pc 23 (o_const 4 24)) (znd pc 24 (zlf pc 24 (o_callv 6 107 3 5 1 27)) (zlf pc 27 (o_putf 6 10 30)))) (znd pc 30 (zlf pc 30 (o_aload 0 31)) (znd pc 31 (zlf pc 31 (o_getf 6 10 34)) (zlf pc 34 (o_const (-1) 35))))))) (znd pc 52 (znd pc 44 (znd pc 38 (znd pc 35 (zlf pc 35 (o_ceq 47 38)) (zlf pc 38 (o_aload 0 39))) (znd pc 39 (zlf pc 39 (o_const 44 41)) (znd pc 41 (zlf pc 41 (o_callv 6 106 2 3 1 44)) (zlf pc 44 (o_ifne 49 47))))) (znd pc 49 (znd pc 47 (zlf pc 47 (o_const 0 48)) (znd pc 48 (zlf pc 48 (o_zret)) (zlf pc 49 (o_aload 0 50)))) (znd pc 50 (zlf pc 50 (o_aload 0 51)) (znd pc 51 (zlf pc 51 (o_const 2 52)) (zlf pc 52 (o_const 1 53)))))) (znd pc 62 (znd pc 55 (znd pc 53 (zlf pc 53 (o_const 20 55)) (zlf pc 55 (o_callv 6 108 4 6 1 58))) (znd pc 58 (zlf pc 58 (o_putf 6 11 61)) (znd pc 61 (zlf pc 61 (o_aload 0 62)) (zlf pc 62 (o_getf 6 11 65))))) (znd pc 69 (znd pc 65 (zlf pc 65 (o_const (-1) 66)) (znd pc 66 (zlf pc 66 (o_ceq 73 69)) (zlf pc 69 (o_const 1 70)))) (znd pc 70 (zlf pc 70 (o_goto 74)) (znd pc 73 (zlf pc 73 (o_const 0 74)) (zlf pc 74 (o_zret)))))))
/-- RepairShopModel.readsBreakdown()Z -/
def zc_111 (pc : Nat) : zOp := znd pc 42 (znd pc 19 (znd pc 7 (znd pc 2 (znd pc 0 (zlf pc 0 (o_aload 0 1)) (znd pc 1 (zlf pc 1 (o_aload 0 2)) (zlf pc 2 (o_const 0 3)))) (znd pc 3 (zlf pc 3 (o_const 4 4)) (znd pc 4 (zlf pc 4 (o_callv 6 107 3 5 1 7)) (zlf pc 7 (o_putf 6 9 10))))) (znd pc 14 (znd pc 10 (zlf pc 10 (o_aload 0 11)) (znd pc 11 (zlf pc 11 (o_getf 6 9 14)) (zlf pc 14 (o_const (-1) 15)))) (znd pc 15 (zlf pc 15 (o_ceq 27 18)) (znd pc 18 (zlf pc 18 (o_aload 0 19)) (zlf pc 19 (o_const 44 21)))))) (znd pc 30 (znd pc 27 (znd pc 21 (zlf pc 21 (o_callv 6 106 2 3 1 24)) (znd pc 24 (zlf pc 24 (o_ifne 29 27)) (zlf pc 27 (o_const 0 28)))) (znd pc 28 (zlf pc 28 (o_zret)) (znd pc 29 (zlf pc 29 (o_aload 0 30)) (zlf pc 30 (o_aload 0 31))))) (znd pc 33 (znd pc 31 (zlf pc 31 (o_const 3 32)) (znd pc 32 (zlf pc 32 (o_const 0 33)) (zlf pc 33 (o_const 500 36)))) (znd pc 36 (zlf pc 36 (o_callv 6 108 4 6 1 39)) (znd pc 39 (zlf pc 39 (o_putf 6 10 42)) (zlf pc 42 (o_aload 0 43))))))) (znd pc 63 (znd pc 53 (znd pc 47 (znd pc 43 (zlf pc 43 (o_getf 6 10 46)) (znd pc 46 (zlf pc 46 (o_const (-1) 47)) (zlf pc 47 (o_ceq 59 50)))) (znd pc 50 (zlf pc 50 (o_aload 0 51)) (znd pc 51 (zlf pc 51 (o_const 44 53)) (zlf pc 53 (o_callv 6 106 2 3 1 56))))) (znd pc 60 (znd pc 56 (zlf pc 56 (o_ifne 61 59)) (znd pc 59 (zlf pc 59 (o_const 0 60)) (zlf pc 60 (o_zret)))) (znd pc 61 (zlf pc 61 (o_aload 0 62)) (znd pc 62 (zlf pc 62 (o_aload 0 63)) (zlf pc 63 (o_const 2 64)))))) (znd pc 74 (znd pc 67 (znd pc 64 (zlf pc 64 (o_const 1 65)) (znd pc 65 (zlf pc 65 (o_const 50 67)) (zlf pc 67 (o_callv 6 108 4 6 1 70)))) (znd pc 70 (zlf pc 70 (o_putf 6 11 73)) (znd pc 73 (zlf pc 73 (o_aload 0 74)) (zlf pc 74 (o_getf 6 11 77))))) (znd pc 81 (znd pc 77 (zlf pc 77 (o_const (-1) 78)) (znd pc 78 (zlf pc 78 (o_ceq 85 81)) (zlf pc 81 (o_const 1 82)))) (znd pc 82 (zlf pc 82 (o_goto 86)) (znd pc 85 (zlf pc 85 (o_const 0 86)) (zlf pc 86 (o_zret)))))))
/-- RepairShopModel.readsOrder()Z -/
def zc_112 (pc : Nat) : zOp := znd pc 85 (znd pc 44 (znd pc 18 (znd pc 8 (znd pc 1 (znd pc 0 (zlf pc 0 (o_aload 0 1)) (zlf pc 1 (o_aload 0 2))) (znd pc 2 (zlf pc 2 (o_callv 6 105 1 1 1 5)) (znd pc 5 (zlf pc 5 (o_putf 6 8 8)) (zlf pc 8 (o_aload 0 9))))) (znd pc 12 (znd pc 9 (zlf pc 9 (o_getf 6 8 12)) (zlf pc 12 (o_const 106 14))) (znd pc 14 (zlf pc 14 (o_ceq 44 17)) (znd pc 17 (zlf pc 17 (o_aload 0 18)) (zlf pc 18 (o_getf 6 8 21)))))) (znd pc 30 (znd pc 23 (znd pc 21 (zlf pc 21 (o_const 111 23)) (zlf pc 23 (o_ceq 44 26))) (znd pc 26 (zlf pc 26 (o_aload 0 27)) (znd pc 27 (zlf pc 27 (o_getf 6 8 30)) (zlf pc 30 (o_const 100 32))))) (znd pc 36 (znd pc 32 (zlf pc 32 (o_ceq 44 35)) (znd pc 35 (zlf pc 35 (o_aload 0 36)) (zlf pc 36 (o_getf 6 8 39)))) (znd pc 39 (zlf pc 39 (o_const 112 41)) (znd pc 41 (zlf pc 41 (o_cne 48 44)) (zlf pc 44 (o_const 1 45))))))) (znd pc 63 (znd pc 51 (znd pc 48 (znd pc 45 (zlf pc 45 (o_goto 49)) (zlf pc 48 (o_const 0 49))) (znd pc 49 (zlf pc 49 (o_istore 1 50)) (znd pc 50 (zlf pc 50 (o_aload 0 51)) (zlf pc 51 (o_dup 52))))) (znd pc 56 (znd pc 52 (zlf pc 52 (o_getf 6 7 55)) (znd pc 55 (zlf pc 55 (o_iload 1 56)) (zlf pc 56 (o_ifeq 63 59)))) (znd pc 59 (zlf pc 59 (o_const 1 60)) (znd pc 60 (zlf pc 60 (o_goto 64)) (zlf pc 63 (o_const 0 64)))))) (znd pc 72 (znd pc 65 (znd pc 64 (zlf pc 64 (o_iadd 65)) (zlf pc 65 (o_putf 6 7 68))) (znd pc 68 (zlf pc 68 (o_aload 0 69)) (znd pc 69 (zlf pc 69 (o_getf 6 8 72)) (zlf pc 72 (o_const 106 74))))) (znd pc 78 (znd pc 74 (zlf pc 74 (o_cne 85 77)) (znd pc 77 (zlf pc 77 (o_aload 0 78)) (zlf pc 78 (o_callv 6 109 1 1 1 81)))) (znd pc 81 (zlf pc 81 (o_istore 1 82)) (znd pc 82 (zlf pc 82 (o_goto 152)) (zlf pc 85 (o_aload 0 86)))))))) (znd pc 129 (znd pc 106 (znd pc 95 (znd pc 89 (znd pc 86 (zlf pc 86 (o_getf 6 8 89)) (zlf pc 89 (o_const 111 91))) (znd pc 91 (zlf pc 91 (o_cne 102 94)) (znd pc 94 (zlf pc 94 (o_aload 0 95)) (zlf pc 95 (o_callv 6 110 1 1 1 98))))) (znd pc 99 (znd pc 98 (zlf pc 98 (o_istore 1 99)) (zlf pc 99 (o_goto 152))) (znd pc 102 (zlf pc 102 (o_aload 0 103)) (znd pc 103 (zlf pc 103 (o_getf 6 8 106)) (zlf pc 106 (o_const 100 108)))))) (znd pc 116 (znd pc 111 (znd pc 108 (zlf pc 108 (o_cne 119 111)) (zlf pc 111 (o_aload 0 112))) (znd pc 112 (zlf pc 112 (o_callv 6 111 1 1 1 115)) (znd pc 115 (zlf pc 115 (o_istore 1 116)) (zlf pc 116 (o_goto 152))))) (znd pc 123 (znd pc 119 (zlf pc 119 (o_aload 0 120)) (znd pc 120 (zlf pc 120 (o_getf 6 8 123)) (zlf pc 123 (o_const 112 125)))) (znd pc 125 (zlf pc 125 (o_cne 152 128)) (znd pc 128 (zlf pc 128 (o_aload 0 129)) (zlf pc 129 (o_aload 0 130))))))) (znd pc 150 (znd pc 138 (znd pc 131 (znd pc 130 (zlf pc 130 (o_const 0 131)) (zlf pc 131 (o_const 3 132))) (znd pc 132 (zlf pc 132 (o_callv 6 107 3 5 1 135)) (znd pc 135 (zlf pc 135 (o_putf 6 9 138)) (zlf pc 138 (o_aload 0 139))))) (znd pc 143 (znd pc 139 (zlf pc 139 (o_getf 6 9 142)) (znd pc 142 (zlf pc 142 (o_const (-1) 143)) (zlf pc 143 (o_ceq 150 146)))) (znd pc 146 (zlf pc 146 (o_const 1 147)) (znd pc 147 (zlf pc 147 (o_goto 151)) (zlf pc 150 (o_const 0 151)))))) (znd pc 157 (znd pc 152 (znd pc 151 (zlf pc 151 (o_istore 1 152)) (zlf pc 152 (o_iload 1 153))) (znd pc 153 (zlf pc 153 (o_ifeq 169 156)) (znd pc 156 (zlf pc 156 (o_aload 0 157)) (zlf pc 157 (o_const 59 159))))) (znd pc 165 (znd pc 159 (zlf pc 159 (o_callv 6 106 2 3 1 162)) (znd pc 162 (zlf pc 162 (o_ifeq 169 165)) (zlf pc 165 (o_const 1 166)))) (znd pc 166 (zlf pc 166 (o_goto 170)) (znd pc 169 (zlf pc 169 (o_const 0 170)) (zlf pc 170 (o_zret))))))))
/-- RepairShopModel.carriesOut()Z -/
def zc_113 (pc : Nat) : zOp := znd pc 99 (znd pc 62 (znd pc 45 (znd pc 3 (znd pc 1 (znd pc 0 (zlf pc 0 (o_const 0 1)) (zlf pc 1 (o_istore 1 2))) (znd pc 2 (zlf pc 2 (o_aload 0 3)) (zlf pc 3 (o_getf 6 8 6)))) (znd pc 40 (znd pc 6 (zlf pc 6 (o_sw [(100, 114), (106, 40), (111, 73)] 155)) (zlf pc 40 (o_aload 0 41))) (znd pc 41 (zlf pc 41 (o_aload 0 42)) (znd pc 42 (zlf pc 42 (o_getf 6 9 45)) (zlf pc 45 (o_aload 0 46)))))) (znd pc 53 (znd pc 49 (znd pc 46 (zlf pc 46 (o_getf 6 10 49)) (zlf pc 49 (o_callv 6 48 3 3 1 52))) (znd pc 52 (zlf pc 52 (o_istore 1 53)) (zlf pc 53 (o_iload 1 54)))) (znd pc 57 (znd pc 54 (zlf pc 54 (o_ifne 163 57)) (zlf pc 57 (o_aload 0 58))) (znd pc 58 (zlf pc 58 (o_aload 0 59)) (znd pc 59 (zlf pc 59 (o_getf 6 9 62)) (zlf pc 62 (o_aload 0 63))))))) (znd pc 79 (znd pc 70 (znd pc 66 (znd pc 63 (zlf pc 63 (o_getf 6 10 66)) (zlf pc 66 (o_callv 6 49 3 4 1 69))) (znd pc 69 (zlf pc 69 (o_pop 70)) (zlf pc 70 (o_goto 163)))) (znd pc 74 (znd pc 73 (zlf pc 73 (o_aload 0 74)) (zlf pc 74 (o_aload 0 75))) (znd pc 75 (zlf pc 75 (o_getf 6 9 78)) (znd pc 78 (zlf pc 78 (o_aload 0 79)) (zlf pc 79 (o_getf 6 10 82)))))) (znd pc 90 (znd pc 83 (znd pc 82 (zlf pc 82 (o_aload 0 83)) (zlf pc 83 (o_getf 6 11 86))) (znd pc 86 (zlf pc 86 (o_callv 6 51 4 4 1 89)) (znd pc 89 (zlf pc 89 (o_istore 1 90)) (zlf pc 90 (o_iload 1 91))))) (znd pc 94 (znd pc 91 (zlf pc 91 (o_ifne 163 94)) (zlf pc 94 (o_aload 0 95))) (znd pc 95 (zlf pc 95 (o_aload 0 96)) (znd pc 96 (zlf pc 96 (o_getf 6 9 99)) (zlf pc 99 (o_aload 0 100)))))))) (znd pc 135 (znd pc 116 (znd pc 107 (znd pc 103 (znd pc 100 (zlf pc 100 (o_getf 6 10 103)) (zlf pc 103 (o_aload 0 104))) (znd pc 104 (zlf pc 104 (o_getf 6 11 107)) (zlf pc 107 (o_callv 6 52 4 5 1 110)))) (znd pc 111 (znd pc 110 (zlf pc 110 (o_pop 111)) (zlf pc 111 (o_goto 163))) (znd pc 114 (zlf pc 114 (o_aload 0 115)) (znd pc 115 (zlf pc 115 (o_aload 0 116)) (zlf pc 116 (o_getf 6 9 119)))))) (znd pc 124 (znd pc 120 (znd pc 119 (zlf pc 119 (o_aload 0 120)) (zlf pc 120 (o_getf 6 10 123))) (znd pc 123 (zlf pc 123 (o_aload 0 124)) (zlf pc 124 (o_getf 6 11 127)))) (znd pc 130 (znd pc 127 (zlf pc 127 (o_callv 6 54 4 4 1 130)) (zlf pc 130 (o_istore 1 131))) (znd pc 131 (zlf pc 131 (o_iload 1 132)) (znd pc 132 (zlf pc 132 (o_ifne 163 135)) (zlf pc 135 (o_aload 0 136))))))) (znd pc 152 (znd pc 141 (znd pc 137 (znd pc 136 (zlf pc 136 (o_aload 0 137)) (zlf pc 137 (o_getf 6 9 140))) (znd pc 140 (zlf pc 140 (o_aload 0 141)) (zlf pc 141 (o_getf 6 10 144)))) (znd pc 145 (znd pc 144 (zlf pc 144 (o_aload 0 145)) (zlf pc 145 (o_getf 6 11 148))) (znd pc 148 (zlf pc 148 (o_callv 6 55 4 5 1 151)) (znd pc 151 (zlf pc 151 (o_pop 152)) (zlf pc 152 (o_goto 163)))))) (znd pc 163 (znd pc 156 (znd pc 155 (zlf pc 155 (o_aload 0 156)) (zlf pc 156 (o_aload 0 157))) (znd pc 157 (zlf pc 157 (o_getf 6 9 160)) (znd pc 160 (zlf pc 160 (o_callv 6 68 2 4 0 163)) (zlf pc 163 (o_iload 1 164))))) (znd pc 167 (znd pc 164 (zlf pc 164 (o_ifne 171 167)) (zlf pc 167 (o_const 1 168))) (znd pc 168 (zlf pc 168 (o_goto 172)) (znd pc 171 (zlf pc 171 (o_const 0 172)) (zlf pc 172 (o_zret))))))))
/-- RepairShopModel.carryOut()I -/
def zc_114 (pc : Nat) : zOp := znd pc 51 (znd pc 21 (znd pc 10 (znd pc 2 (znd pc 0 (zlf pc 0 (o_aload 0 1)) (znd pc 1 (zlf pc 1 (o_const 0 2)) (zlf pc 2 (o_putf 6 0 5)))) (znd pc 6 (znd pc 5 (zlf pc 5 (o_aload 0 6)) (zlf pc 6 (o_const 0 7))) (znd pc 7 (zlf pc 7 (o_putf 6 7 10)) (zlf pc 10 (o_const 1 11))))) (znd pc 13 (znd pc 11 (zlf pc 11 (o_istore 1 12)) (znd pc 12 (zlf pc 12 (o_iload 1 13)) (zlf pc 13 (o_ifeq 35 16)))) (znd pc 17 (znd pc 16 (zlf pc 16 (o_aload 0 17)) (zlf pc 17 (o_getf 6 7 20))) (znd pc 20 (zlf pc 20 (o_aload 0 21)) (zlf pc 21 (o_getf 6 6 24)))))) (znd pc 36 (znd pc 28 (znd pc 24 (zlf pc 24 (o_cge 35 27)) (znd pc 27 (zlf pc 27 (o_aload 0 28)) (zlf pc 28 (o_callv 6 112 1 2 1 31)))) (znd pc 32 (znd pc 31 (zlf pc 31 (o_istore 1 32)) (zlf pc 32 (o_goto 12))) (znd pc 35 (zlf pc 35 (o_iload 1 36)) (zlf pc 36 (o_ifne 47 39))))) (znd pc 45 (znd pc 41 (znd pc 39 (zlf pc 39 (o_const (-10) 41)) (zlf pc 41 (o_aload 0 42))) (znd pc 42 (zlf pc 42 (o_getf 6 7 45)) (zlf pc 45 (o_isub 46)))) (znd pc 47 (znd pc 46 (zlf pc 46 (o_iret)) (zlf pc 47 (o_aload 0 48))) (znd pc 48 (zlf pc 48 (o_callv 6 39 1 2 0 51)) (zlf pc 51 (o_aload 0 52))))))) (znd pc 76 (znd pc 60 (znd pc 56 (znd pc 52 (zlf pc 52 (o_const 0 53)) (znd pc 53 (zlf pc 53 (o_putf 6 7 56)) (zlf pc 56 (o_const 0 57)))) (znd pc 58 (znd pc 57 (zlf pc 57 (o_istore 2 58)) (zlf pc 58 (o_const 1 59))) (znd pc 59 (zlf pc 59 (o_istore 3 60)) (zlf pc 60 (o_iload 3 61))))) (znd pc 68 (znd pc 64 (znd pc 61 (zlf pc 61 (o_ifeq 100 64)) (zlf pc 64 (o_aload 0 65))) (znd pc 65 (zlf pc 65 (o_getf 6 7 68)) (zlf pc 68 (o_aload 0 69)))) (znd pc 72 (znd pc 69 (zlf pc 69 (o_getf 6 6 72)) (zlf pc 72 (o_cge 100 75))) (znd pc 75 (zlf pc 75 (o_aload 0 76)) (zlf pc 76 (o_callv 6 112 1 2 1 79)))))) (znd pc 87 (znd pc 81 (znd pc 79 (zlf pc 79 (o_pop 80)) (znd pc 80 (zlf pc 80 (o_aload 0 81)) (zlf pc 81 (o_callv 6 113 1 2 1 84)))) (znd pc 85 (znd pc 84 (zlf pc 84 (o_istore 3 85)) (zlf pc 85 (o_iload 2 86))) (znd pc 86 (zlf pc 86 (o_iload 3 87)) (zlf pc 87 (o_ifeq 94 90))))) (znd pc 95 (znd pc 91 (znd pc 90 (zlf pc 90 (o_const 1 91)) (zlf pc 91 (o_goto 95))) (znd pc 94 (zlf pc 94 (o_const 0 95)) (zlf pc 95 (o_iadd 96)))) (znd pc 97 (znd pc 96 (zlf pc 96 (o_istore 2 97)) (zlf pc 97 (o_goto 60))) (znd pc 100 (zlf pc 100 (o_iload 2 101)) (zlf pc 101 (o_iret)))))))
/-- RepairShopModel.undo()I -/
def zc_115 (pc : Nat) : zOp := znd pc 27 (znd pc 13 (znd pc 5 (znd pc 1 (znd pc 0 (zlf pc 0 (o_aload 0 1)) (zlf pc 1 (o_aload 0 2))) (znd pc 2 (zlf pc 2 (o_getf 6 4 5)) (zlf pc 5 (o_ifle 12 8)))) (znd pc 9 (znd pc 8 (zlf pc 8 (o_const 0 9)) (zlf pc 9 (o_goto 13))) (znd pc 12 (zlf pc 12 (o_const 1 13)) (zlf pc 13 (o_putf 6 0 16))))) (znd pc 23 (znd pc 17 (znd pc 16 (zlf pc 16 (o_aload 0 17)) (zlf pc 17 (o_getf 6 0 20))) (znd pc 20 (zlf pc 20 (o_ifle 25 23)) (zlf pc 23 (o_const 0 24)))) (znd pc 25 (znd pc 24 (zlf pc 24 (o_iret)) (zlf pc 25 (o_aload 0 26))) (znd pc 26 (zlf pc 26 (o_dup 27)) (zlf pc 27 (o_getf 6 4 30)))))) (znd pc 43 (znd pc 35 (znd pc 31 (znd pc 30 (zlf pc 30 (o_const 1 31)) (zlf pc 31 (o_isub 32))) (znd pc 32 (zlf pc 32 (o_putf 6 4 35)) (zlf pc 35 (o_aload 0 36)))) (znd pc 39 (znd pc 36 (zlf pc 36 (o_getf 6 3 39)) (zlf pc 39 (o_aload 0 40))) (znd pc 40 (zlf pc 40 (o_getf 6 4 43)) (zlf pc 43 (o_const 161 46))))) (znd pc 51 (znd pc 47 (znd pc 46 (zlf pc 46 (o_imul 47)) (zlf pc 47 (o_aload 0 48))) (znd pc 48 (zlf pc 48 (o_getf 6 1 51)) (zlf pc 51 (o_const 0 52)))) (znd pc 55 (znd pc 52 (zlf pc 52 (o_call 37 4 5 0 55)) (zlf pc 55 (o_aload 0 56))) (znd pc 56 (zlf pc 56 (o_getf 6 4 59)) (zlf pc 59 (o_iret))))))
/-- RepairShopModel.digest()J -/
def zc_116 (pc : Nat) : zOp := znd pc 110 (znd pc 50 (znd pc 26 (znd pc 13 (znd pc 5 (znd pc 1 (znd pc 0 (zlf pc 0 (o_aload 0 1)) (zlf pc 1 (o_const 0 2))) (znd pc 2 (zlf pc 2 (o_putf 6 0 5)) (zlf pc 5 (o_lconst 115289 8)))) (znd pc 9 (znd pc 8 (zlf pc 8 (o_aload 0 9)) (zlf pc 9 (o_getf 6 6 12))) (znd pc 12 (zlf pc 12 (o_i2l 13)) (zlf pc 13 (o_ladd 14))))) (znd pc 17 (znd pc 15 (znd pc 14 (zlf pc 14 (o_lstore 1 15)) (zlf pc 15 (o_const 0 16))) (znd pc 16 (zlf pc 16 (o_istore 3 17)) (zlf pc 17 (o_iload 3 18)))) (znd pc 20 (znd pc 18 (zlf pc 18 (o_const 9 20)) (zlf pc 20 (o_cgt 42 23))) (znd pc 23 (zlf pc 23 (o_lconst 31 26)) (zlf pc 26 (o_lload 1 27)))))) (znd pc 36 (znd pc 30 (znd pc 28 (znd pc 27 (zlf pc 27 (o_lmul 28)) (zlf pc 28 (o_aload 0 29))) (znd pc 29 (zlf pc 29 (o_iload 3 30)) (zlf pc 30 (o_callv 6 90 2 2 1 33)))) (znd pc 34 (znd pc 33 (zlf pc 33 (o_i2l 34)) (zlf pc 34 (o_ladd 35))) (znd pc 35 (zlf pc 35 (o_lstore 1 36)) (zlf pc 36 (o_iinc 3 1 39))))) (znd pc 44 (znd pc 42 (znd pc 39 (zlf pc 39 (o_goto 17)) (zlf pc 42 (o_const 0 43))) (znd pc 43 (zlf pc 43 (o_istore 3 44)) (zlf pc 44 (o_iload 3 45)))) (znd pc 46 (znd pc 45 (zlf pc 45 (o_aload 0 46)) (zlf pc 46 (o_getf 6 1 49))) (znd pc 49 (zlf pc 49 (o_const 1 50)) (zlf pc 50 (o_iald 51))))))) (znd pc 77 (znd pc 66 (znd pc 57 (znd pc 54 (znd pc 51 (zlf pc 51 (o_cge 142 54)) (zlf pc 54 (o_const 0 55))) (znd pc 55 (zlf pc 55 (o_istore 4 57)) (zlf pc 57 (o_iload 4 59)))) (znd pc 60 (znd pc 59 (zlf pc 59 (o_const 5 60)) (zlf pc 60 (o_cgt 84 63))) (znd pc 63 (zlf pc 63 (o_lconst 31 66)) (zlf pc 66 (o_lload 1 67))))) (znd pc 70 (znd pc 68 (znd pc 67 (zlf pc 67 (o_lmul 68)) (zlf pc 68 (o_aload 0 69))) (znd pc 69 (zlf pc 69 (o_iload 3 70)) (zlf pc 70 (o_iload 4 72)))) (znd pc 75 (znd pc 72 (zlf pc 72 (o_callv 6 81 3 6 1 75)) (zlf pc 75 (o_i2l 76))) (znd pc 76 (zlf pc 76 (o_ladd 77)) (zlf pc 77 (o_lstore 1 78)))))) (znd pc 91 (znd pc 85 (znd pc 81 (znd pc 78 (zlf pc 78 (o_iinc 4 1 81)) (zlf pc 81 (o_goto 57))) (znd pc 84 (zlf pc 84 (o_const 0 85)) (zlf pc 85 (o_istore 4 87)))) (znd pc 89 (znd pc 87 (zlf pc 87 (o_iload 4 89)) (zlf pc 89 (o_aload 0 90))) (znd pc 90 (zlf pc 90 (o_iload 3 91)) (zlf pc 91 (o_const 2 92))))) (znd pc 99 (znd pc 95 (znd pc 92 (zlf pc 92 (o_callv 6 42 3 3 1 95)) (zlf pc 95 (o_cge 136 98))) (znd pc 98 (zlf pc 98 (o_const 0 99)) (zlf pc 99 (o_istore 5 101)))) (znd pc 103 (znd pc 101 (zlf pc 101 (o_iload 5 103)) (zlf pc 103 (o_const 4 104))) (znd pc 104 (zlf pc 104 (o_cgt 130 107)) (znd pc 107 (zlf pc 107 (o_lconst 31 110)) (zlf pc 110 (o_lload 1 111))))))))) (znd pc 169 (znd pc 142 (znd pc 122 (znd pc 114 (znd pc 112 (znd pc 111 (zlf pc 111 (o_lmul 112)) (zlf pc 112 (o_aload 0 113))) (znd pc 113 (zlf pc 113 (o_iload 3 114)) (zlf pc 114 (o_iload 4 116)))) (znd pc 118 (znd pc 116 (zlf pc 116 (o_iload 5 118)) (zlf pc 118 (o_callv 6 84 4 4 1 121))) (znd pc 121 (zlf pc 121 (o_i2l 122)) (zlf pc 122 (o_ladd 123))))) (znd pc 130 (znd pc 124 (znd pc 123 (zlf pc 123 (o_lstore 1 124)) (zlf pc 124 (o_iinc 5 1 127))) (znd pc 127 (zlf pc 127 (o_goto 101)) (zlf pc 130 (o_iinc 4 1 133)))) (znd pc 136 (znd pc 133 (zlf pc 133 (o_goto 87)) (zlf pc 136 (o_iinc 3 1 139))) (znd pc 139 (zlf pc 139 (o_goto 44)) (zlf pc 142 (o_const 0 143)))))) (znd pc 154 (znd pc 146 (znd pc 144 (znd pc 143 (zlf pc 143 (o_istore 3 144)) (zlf pc 144 (o_iload 3 145))) (znd pc 145 (zlf pc 145 (o_aload 0 146)) (zlf pc 146 (o_getf 6 1 149)))) (znd pc 150 (znd pc 149 (zlf pc 149 (o_const 2 150)) (zlf pc 150 (o_iald 151))) (znd pc 151 (zlf pc 151 (o_cge 190 154)) (zlf pc 154 (o_const 0 155))))) (znd pc 160 (znd pc 157 (znd pc 155 (zlf pc 155 (o_istore 4 157)) (zlf pc 157 (o_iload 4 159))) (znd pc 159 (zlf pc 159 (o_const 2 160)) (zlf pc 160 (o_cgt 184 163)))) (znd pc 166 (znd pc 163 (zlf pc 163 (o_lconst 31 166)) (zlf pc 166 (o_lload 1 167))) (znd pc 167 (zlf pc 167 (o_lmul 168)) (znd pc 168 (zlf pc 168 (o_aload 0 169)) (zlf pc 169 (o_iload 3 170)))))))) (znd pc 200 (znd pc 184 (znd pc 176 (znd pc 172 (znd pc 170 (zlf pc 170 (o_iload 4 172)) (zlf pc 172 (o_callv 6 46 3 3 1 175))) (znd pc 175 (zlf pc 175 (o_i2l 176)) (zlf pc 176 (o_ladd 177)))) (znd pc 178 (znd pc 177 (zlf pc 177 (o_lstore 1 178)) (zlf pc 178 (o_iinc 4 1 181))) (znd pc 181 (zlf pc 181 (o_goto 157)) (zlf pc 184 (o_iinc 3 1 187))))) (znd pc 194 (znd pc 190 (znd pc 187 (zlf pc 187 (o_goto 144)) (zlf pc 190 (o_lconst 31 193))) (znd pc 193 (zlf pc 193 (o_lload 1 194)) (zlf pc 194 (o_lmul 195)))) (znd pc 196 (znd pc 195 (zlf pc 195 (o_aload 0 196)) (zlf pc 196 (o_callv 6 92 1 5 1 199))) (znd pc 199 (zlf pc 199 (o_i2l 200)) (zlf pc 200 (o_ladd 201)))))) (znd pc 212 (znd pc 206 (znd pc 202 (znd pc 201 (zlf pc 201 (o_lstore 1 202)) (zlf pc 202 (o_lconst 31 205))) (znd pc 205 (zlf pc 205 (o_lload 1 206)) (zlf pc 206 (o_lmul 207)))) (znd pc 208 (znd pc 207 (zlf pc 207 (o_aload 0 208)) (zlf pc 208 (o_callv 6 99 1 2 1 211))) (znd pc 211 (zlf pc 211 (o_i2l 212)) (zlf pc 212 (o_ladd 213))))) (znd pc 218 (znd pc 214 (znd pc 213 (zlf pc 213 (o_lstore 1 214)) (zlf pc 214 (o_lconst 31 217))) (znd pc 217 (zlf pc 217 (o_lload 1 218)) (zlf pc 218 (o_lmul 219)))) (znd pc 220 (znd pc 219 (zlf pc 219 (o_aload 0 220)) (zlf pc 220 (o_getf 6 4 223))) (znd pc 223 (zlf pc 223 (o_i2l 224)) (znd pc 224 (zlf pc 224 (o_ladd 225)) (zlf pc 225 (o_lret)))))))))
/-- RepairShop$History.save(LRepairShop$Shop;)V -/
def zc_117 (pc : Nat) : zOp := znd pc 24 (znd pc 10 (znd pc 4 (znd pc 0 (zlf pc 0 (o_aload 0 1)) (znd pc 1 (zlf pc 1 (o_getf 1 0 4)) (zlf pc 4 (o_aload 0 5)))) (znd pc 8 (znd pc 5 (zlf pc 5 (o_getf 1 1 8)) (zlf pc 8 (o_aald 9))) (znd pc 9 (zlf pc 9 (o_aload 1 10)) (zlf pc 10 (o_callv 4 145 2 2 0 13))))) (znd pc 18 (znd pc 14 (znd pc 13 (zlf pc 13 (o_aload 0 14)) (zlf pc 14 (o_aload 0 15))) (znd pc 15 (zlf pc 15 (o_getf 1 1 18)) (zlf pc 18 (o_const 1 19)))) (znd pc 20 (znd pc 19 (zlf pc 19 (o_iadd 20)) (zlf pc 20 (o_const 4 21))) (znd pc 21 (zlf pc 21 (o_cge 33 24)) (zlf pc 24 (o_aload 0 25)))))) (znd pc 37 (znd pc 29 (znd pc 25 (zlf pc 25 (o_getf 1 1 28)) (znd pc 28 (zlf pc 28 (o_const 1 29)) (zlf pc 29 (o_iadd 30)))) (znd pc 33 (znd pc 30 (zlf pc 30 (o_goto 34)) (zlf pc 33 (o_const 0 34))) (znd pc 34 (zlf pc 34 (o_putf 1 1 37)) (zlf pc 37 (o_aload 0 38))))) (znd pc 43 (znd pc 39 (znd pc 38 (zlf pc 38 (o_aload 0 39)) (zlf pc 39 (o_getf 1 2 42))) (znd pc 42 (zlf pc 42 (o_const 1 43)) (zlf pc 43 (o_iadd 44)))) (znd pc 45 (znd pc 44 (zlf pc 44 (o_const 4 45)) (zlf pc 45 (o_min 48))) (znd pc 48 (zlf pc 48 (o_putf 1 2 51)) (zlf pc 51 (o_ret))))))
/-- RepairShop$History.restore(LRepairShop$Shop;)V -/
def zc_118 (pc : Nat) : zOp := znd pc 22 (znd pc 9 (znd pc 2 (znd pc 0 (zlf pc 0 (o_aload 0 1)) (znd pc 1 (zlf pc 1 (o_aload 0 2)) (zlf pc 2 (o_getf 1 1 5)))) (znd pc 5 (zlf pc 5 (o_ifle 17 8)) (znd pc 8 (zlf pc 8 (o_aload 0 9)) (zlf pc 9 (o_getf 1 1 12))))) (znd pc 14 (znd pc 12 (zlf pc 12 (o_const 1 13)) (znd pc 13 (zlf pc 13 (o_isub 14)) (zlf pc 14 (o_goto 18)))) (znd pc 18 (znd pc 17 (zlf pc 17 (o_const 3 18)) (zlf pc 18 (o_putf 1 1 21))) (znd pc 21 (zlf pc 21 (o_aload 0 22)) (zlf pc 22 (o_aload 0 23)))))) (znd pc 35 (znd pc 27 (znd pc 23 (zlf pc 23 (o_getf 1 2 26)) (znd pc 26 (zlf pc 26 (o_const 1 27)) (zlf pc 27 (o_isub 28)))) (znd pc 29 (znd pc 28 (zlf pc 28 (o_const 0 29)) (zlf pc 29 (o_max 32))) (znd pc 32 (zlf pc 32 (o_putf 1 2 35)) (zlf pc 35 (o_aload 1 36))))) (znd pc 40 (znd pc 36 (zlf pc 36 (o_aload 0 37)) (znd pc 37 (zlf pc 37 (o_getf 1 0 40)) (zlf pc 40 (o_aload 0 41)))) (znd pc 44 (znd pc 41 (zlf pc 41 (o_getf 1 1 44)) (zlf pc 44 (o_aald 45))) (znd pc 45 (zlf pc 45 (o_callv 4 145 2 2 0 48)) (zlf pc 48 (o_ret))))))
/-- RepairShop$OrderText.startOver()V -/
def zc_119 (pc : Nat) : zOp := znd pc 2 (znd pc 0 (zlf pc 0 (o_aload 0 1)) (znd pc 1 (zlf pc 1 (o_const 0 2)) (zlf pc 2 (o_putf 2 2 5)))) (znd pc 6 (znd pc 5 (zlf pc 5 (o_aload 0 6)) (zlf pc 6 (o_const (-1) 7))) (znd pc 7 (zlf pc 7 (o_putf 2 3 10)) (zlf pc 10 (o_ret))))
/-- RepairShop$OrderText.findError()I -/
def zc_120 (pc : Nat) : zOp := znd pc 13 (znd pc 5 (znd pc 1 (znd pc 0 (zlf pc 0 (o_aload 0 1)) (zlf pc 1 (o_callv 2 119 1 1 0 4))) (znd pc 4 (zlf pc 4 (o_const 0 5)) (zlf pc 5 (o_istore 1 6)))) (znd pc 7 (znd pc 6 (zlf pc 6 (o_iload 1 7)) (zlf pc 7 (o_const 100 9))) (znd pc 9 (zlf pc 9 (o_cge 30 12)) (znd pc 12 (zlf pc 12 (o_aload 0 13)) (zlf pc 13 (o_callv 2 121 1 1 1 16)))))) (znd pc 23 (znd pc 19 (znd pc 16 (zlf pc 16 (o_ifne 24 19)) (zlf pc 19 (o_aload 0 20))) (znd pc 20 (zlf pc 20 (o_getf 2 3 23)) (zlf pc 23 (o_iret)))) (znd pc 27 (znd pc 24 (zlf pc 24 (o_iinc 1 1 27)) (zlf pc 27 (o_goto 6))) (znd pc 30 (zlf pc 30 (o_aload 0 31)) (znd pc 31 (zlf pc 31 (o_getf 2 3 34)) (zlf pc 34 (o_iret))))))
/-- RepairShop$OrderText.readsOrder()Z -/
def zc_121 (pc : Nat) : zOp := znd pc 91 (znd pc 23 (znd pc 12 (znd pc 4 (znd pc 0 (zlf pc 0 (o_aload 0 1)) (znd pc 1 (zlf pc 1 (o_getf 2 3 4)) (zlf pc 4 (o_const (-1) 5)))) (znd pc 8 (znd pc 5 (zlf pc 5 (o_cne 19 8)) (zlf pc 8 (o_aload 0 9))) (znd pc 9 (zlf pc 9 (o_getf 2 2 12)) (zlf pc 12 (o_aload 0 13))))) (znd pc 19 (znd pc 13 (zlf pc 13 (o_getf 2 1 16)) (znd pc 16 (zlf pc 16 (o_clt 21 19)) (zlf pc 19 (o_const 0 20)))) (znd pc 21 (znd pc 20 (zlf pc 20 (o_zret)) (zlf pc 21 (o_aload 0 22))) (znd pc 22 (zlf pc 22 (o_aload 0 23)) (zlf pc 23 (o_callv 2 125 1 1 1 26)))))) (znd pc 36 (znd pc 30 (znd pc 26 (zlf pc 26 (o_putf 2 4 29)) (znd pc 29 (zlf pc 29 (o_aload 0 30)) (zlf pc 30 (o_dup 31)))) (znd pc 34 (znd pc 31 (zlf pc 31 (o_getf 2 2 34)) (zlf pc 34 (o_const 1 35))) (znd pc 35 (zlf pc 35 (o_iadd 36)) (zlf pc 36 (o_putf 2 2 39))))) (znd pc 43 (znd pc 39 (zlf pc 39 (o_aload 0 40)) (znd pc 40 (zlf pc 40 (o_getf 2 4 43)) (zlf pc 43 (o_sw [(100, 98), (106, 84), (111, 91), (112, 105)] 118)))) (znd pc 85 (znd pc 84 (zlf pc 84 (o_aload 0 85)) (zlf pc 85 (o_callv 2 122 1 1 0 88))) (znd pc 88 (zlf pc 88 (o_goto 128)) (zlf pc 91 (o_aload 0 92))))))) (znd pc 119 (znd pc 106 (znd pc 98 (znd pc 92 (zlf pc 92 (o_callv 2 123 1 1 0 95)) (znd pc 95 (zlf pc 95 (o_goto 128)) (zlf pc 98 (o_aload 0 99)))) (znd pc 102 (znd pc 99 (zlf pc 99 (o_callv 2 124 1 1 0 102)) (zlf pc 102 (o_goto 128))) (znd pc 105 (zlf pc 105 (o_aload 0 106)) (zlf pc 106 (o_aload 0 107))))) (znd pc 109 (znd pc 107 (zlf pc 107 (o_const 0 108)) (znd pc 108 (zlf pc 108 (o_const 3 109)) (zlf pc 109 (o_callv 2 128 3 4 1 112)))) (znd pc 115 (znd pc 112 (zlf pc 112 (o_putf 2 5 115)) (zlf pc 115 (o_goto 128))) (znd pc 118 (zlf pc 118 (o_aload 0 119)) (zlf pc 119 (o_aload 0 120)))))) (znd pc 131 (znd pc 124 (znd pc 120 (zlf pc 120 (o_getf 2 2 123)) (znd pc 123 (zlf pc 123 (o_const 1 124)) (zlf pc 124 (o_isub 125)))) (znd pc 128 (znd pc 125 (zlf pc 125 (o_putf 2 3 128)) (zlf pc 128 (o_aload 0 129))) (znd pc 129 (zlf pc 129 (o_const 59 131)) (zlf pc 131 (o_callv 2 127 2 2 0 134))))) (znd pc 139 (znd pc 135 (znd pc 134 (zlf pc 134 (o_aload 0 135)) (zlf pc 135 (o_getf 2 3 138))) (znd pc 138 (zlf pc 138 (o_const (-1) 139)) (zlf pc 139 (o_cne 146 142)))) (znd pc 143 (znd pc 142 (zlf pc 142 (o_const 1 143)) (zlf pc 143 (o_goto 147))) (znd pc 146 (zlf pc 146 (o_const 0 147)) (zlf pc 147 (o_zret)))))))
/-- RepairShop$OrderText.readJob()V -/
def zc_122 (pc : Nat) : zOp := znd pc 12 (znd pc 3 (znd pc 1 (znd pc 0 (zlf pc 0 (o_aload 0 1)) (zlf pc 1 (o_aload 0 2))) (znd pc 2 (zlf pc 2 (o_const 1 3)) (zlf pc 3 (o_const 9 5)))) (znd pc 8 (znd pc 5 (zlf pc 5 (o_callv 2 128 3 4 1 8)) (zlf pc 8 (o_putf 2 5 11))) (znd pc 11 (zlf pc 11 (o_aload 0 12)) (zlf pc 12 (o_const 44 14))))) (znd pc 19 (znd pc 17 (znd pc 14 (zlf pc 14 (o_callv 2 127 2 2 0 17)) (zlf pc 17 (o_aload 0 18))) (znd pc 18 (zlf pc 18 (o_aload 0 19)) (zlf pc 19 (o_const 3 20)))) (znd pc 21 (znd pc 20 (zlf pc 20 (o_const 0 21)) (zlf pc 21 (o_const 999 24))) (znd pc 24 (zlf pc 24 (o_callv 2 129 4 7 1 27)) (znd pc 27 (zlf pc 27 (o_putf 2 6 30)) (zlf pc 30 (o_ret))))))
/-- RepairShop$OrderText.readOperation()V -/
def zc_123 (pc : Nat) : zOp := znd pc 14 (znd pc 4 (znd pc 1 (znd pc 0 (zlf pc 0 (o_aload 0 1)) (zlf pc 1 (o_aload 0 2))) (znd pc 2 (zlf pc 2 (o_const 0 3)) (znd pc 3 (zlf pc 3 (o_const 5 4)) (zlf pc 4 (o_callv 2 128 3 4 1 7))))) (znd pc 11 (znd pc 7 (zlf pc 7 (o_putf 2 5 10)) (znd pc 10 (zlf pc 10 (o_aload 0 11)) (zlf pc 11 (o_aload 0 12)))) (znd pc 12 (zlf pc 12 (o_const 0 13)) (znd pc 13 (zlf pc 13 (o_const 4 14)) (zlf pc 14 (o_callv 2 128 3 4 1 17)))))) (znd pc 27 (znd pc 21 (znd pc 17 (zlf pc 17 (o_putf 2 6 20)) (znd pc 20 (zlf pc 20 (o_aload 0 21)) (zlf pc 21 (o_const 44 23)))) (znd pc 23 (zlf pc 23 (o_callv 2 127 2 2 0 26)) (znd pc 26 (zlf pc 26 (o_aload 0 27)) (zlf pc 27 (o_aload 0 28))))) (znd pc 30 (znd pc 28 (zlf pc 28 (o_const 2 29)) (znd pc 29 (zlf pc 29 (o_const 1 30)) (zlf pc 30 (o_const 20 32)))) (znd pc 32 (zlf pc 32 (o_callv 2 129 4 7 1 35)) (znd pc 35 (zlf pc 35 (o_putf 2 7 38)) (zlf pc 38 (o_ret))))))
/-- RepairShop$OrderText.readBreakdown()V -/
def zc_124 (pc : Nat) : zOp := znd pc 19 (znd pc 7 (znd pc 2 (znd pc 0 (zlf pc 0 (o_aload 0 1)) (znd pc 1 (zlf pc 1 (o_aload 0 2)) (zlf pc 2 (o_const 0 3)))) (znd pc 3 (zlf pc 3 (o_const 4 4)) (znd pc 4 (zlf pc 4 (o_callv 2 128 3 4 1 7)) (zlf pc 7 (o_putf 2 5 10))))) (znd pc 13 (znd pc 10 (zlf pc 10 (o_aload 0 11)) (znd pc 11 (zlf pc 11 (o_const 44 13)) (zlf pc 13 (o_callv 2 127 2 2 0 16)))) (znd pc 17 (znd pc 16 (zlf pc 16 (o_aload 0 17)) (zlf pc 17 (o_aload 0 18))) (znd pc 18 (zlf pc 18 (o_const 3 19)) (zlf pc 19 (o_const 0 20)))))) (znd pc 35 (znd pc 26 (znd pc 20 (zlf pc 20 (o_const 500 23)) (znd pc 23 (zlf pc 23 (o_callv 2 129 4 7 1 26)) (zlf pc 26 (o_putf 2 6 29)))) (znd pc 30 (znd pc 29 (zlf pc 29 (o_aload 0 30)) (zlf pc 30 (o_const 44 32))) (znd pc 32 (zlf pc 32 (o_callv 2 127 2 2 0 35)) (zlf pc 35 (o_aload 0 36))))) (znd pc 38 (znd pc 36 (zlf pc 36 (o_aload 0 37)) (znd pc 37 (zlf pc 37 (o_const 2 38)) (zlf pc 38 (o_const 1 39)))) (znd pc 41 (znd pc 39 (zlf pc 39 (o_const 50 41)) (zlf pc 41 (o_callv 2 129 4 7 1 44))) (znd pc 44 (zlf pc 44 (o_putf 2 7 47)) (zlf pc 47 (o_ret))))))
/-- RepairShop$OrderText.nextByte()I -/
def zc_125 (pc : Nat) : zOp := znd pc 19 (znd pc 8 (znd pc 1 (znd pc 0 (zlf pc 0 (o_aload 0 1)) (zlf pc 1 (o_getf 2 2 4))) (znd pc 4 (zlf pc 4 (o_iflt 39 7)) (znd pc 7 (zlf pc 7 (o_aload 0 8)) (zlf pc 8 (o_getf 2 2 11))))) (znd pc 12 (znd pc 11 (zlf pc 11 (o_aload 0 12)) (zlf pc 12 (o_getf 2 1 15))) (znd pc 15 (zlf pc 15 (o_cge 39 18)) (znd pc 18 (zlf pc 18 (o_aload 0 19)) (zlf pc 19 (o_getf 2 2 22)))))) (znd pc 31 (znd pc 24 (znd pc 22 (zlf pc 22 (o_const 100 24)) (zlf pc 24 (o_cge 39 27))) (znd pc 27 (zlf pc 27 (o_aload 0 28)) (znd pc 28 (zlf pc 28 (o_getf 2 0 31)) (zlf pc 31 (o_aload 0 32))))) (znd pc 35 (znd pc 32 (zlf pc 32 (o_getf 2 2 35)) (zlf pc 35 (o_iald 36))) (znd pc 36 (zlf pc 36 (o_goto 40)) (znd pc 39 (zlf pc 39 (o_const (-1) 40)) (zlf pc 40 (o_iret))))))
/-- RepairShop$OrderText.isAtDigit()Z -/
def zc_126 (pc : Nat) : zOp := znd pc 4 (znd pc 0 (zlf pc 0 (o_aload 0 1)) (znd pc 1 (zlf pc 1 (o_callv 2 125 1 1 1 4)) (zlf pc 4 (o_const 48 6)))) (znd pc 6 (zlf pc 6 (o_const 57 8)) (znd pc 8 (zlf pc 8 (o_call 33 3 3 1 11)) (zlf pc 11 (o_zret))))
/-- RepairShop$OrderText.readSign(I)V -/
def zc_127 (pc : Nat) : zOp := znd pc 17 (znd pc 8 (znd pc 1 (znd pc 0 (zlf pc 0 (o_aload 0 1)) (zlf pc 1 (o_getf 2 3 4))) (znd pc 4 (zlf pc 4 (o_const (-1) 5)) (znd pc 5 (zlf pc 5 (o_ceq 9 8)) (zlf pc 8 (o_ret))))) (znd pc 10 (znd pc 9 (zlf pc 9 (o_aload 0 10)) (zlf pc 10 (o_callv 2 125 1 1 1 13))) (znd pc 13 (zlf pc 13 (o_iload 1 14)) (znd pc 14 (zlf pc 14 (o_ceq 26 17)) (zlf pc 17 (o_aload 0 18)))))) (znd pc 26 (znd pc 19 (znd pc 18 (zlf pc 18 (o_aload 0 19)) (zlf pc 19 (o_getf 2 2 22))) (znd pc 22 (zlf pc 22 (o_putf 2 3 25)) (znd pc 25 (zlf pc 25 (o_ret)) (zlf pc 26 (o_aload 0 27))))) (znd pc 31 (znd pc 27 (zlf pc 27 (o_dup 28)) (znd pc 28 (zlf pc 28 (o_getf 2 2 31)) (zlf pc 31 (o_const 1 32)))) (znd pc 32 (zlf pc 32 (o_iadd 33)) (znd pc 33 (zlf pc 33 (o_putf 2 2 36)) (zlf pc 36 (o_ret))))))
/-- RepairShop$OrderText.readDigit(II)I -/
def zc_128 (pc : Nat) : zOp := znd pc 21 (znd pc 10 (znd pc 4 (znd pc 0 (zlf pc 0 (o_aload 0 1)) (znd pc 1 (zlf pc 1 (o_getf 2 3 4)) (zlf pc 4 (o_const (-1) 5)))) (znd pc 8 (znd pc 5 (zlf pc 5 (o_ceq 10 8)) (zlf pc 8 (o_const 0 9))) (znd pc 9 (zlf pc 9 (o_iret)) (zlf pc 10 (o_aload 0 11))))) (znd pc 17 (znd pc 14 (znd pc 11 (zlf pc 11 (o_callv 2 125 1 1 1 14)) (zlf pc 14 (o_const 48 16))) (znd pc 16 (zlf pc 16 (o_isub 17)) (zlf pc 17 (o_istore 3 18)))) (znd pc 19 (znd pc 18 (zlf pc 18 (o_iload 3 19)) (zlf pc 19 (o_iload 1 20))) (znd pc 20 (zlf pc 20 (o_iload 2 21)) (zlf pc 21 (o_call 33 3 3 1 24)))))) (znd pc 36 (znd pc 28 (znd pc 24 (zlf pc 24 (o_ifne 37 27)) (znd pc 27 (zlf pc 27 (o_aload 0 28)) (zlf pc 28 (o_aload 0 29)))) (znd pc 32 (znd pc 29 (zlf pc 29 (o_getf 2 2 32)) (zlf pc 32 (o_putf 2 3 35))) (znd pc 35 (zlf pc 35 (o_const 0 36)) (zlf pc 36 (o_iret))))) (znd pc 42 (znd pc 38 (znd pc 37 (zlf pc 37 (o_aload 0 38)) (zlf pc 38 (o_dup 39))) (znd pc 39 (zlf pc 39 (o_getf 2 2 42)) (zlf pc 42 (o_const 1 43)))) (znd pc 44 (znd pc 43 (zlf pc 43 (o_iadd 44)) (zlf pc 44 (o_putf 2 2 47))) (znd pc 47 (zlf pc 47 (o_iload 3 48)) (zlf pc 48 (o_iret))))))
/-- RepairShop$OrderText.readNumber(III)I -/
def zc_129 (pc : Nat) : zOp := znd pc 50 (znd pc 22 (znd pc 10 (znd pc 4 (znd pc 0 (zlf pc 0 (o_aload 0 1)) (znd pc 1 (zlf pc 1 (o_getf 2 3 4)) (zlf pc 4 (o_const (-1) 5)))) (znd pc 8 (znd pc 5 (zlf pc 5 (o_ceq 10 8)) (zlf pc 8 (o_const 0 9))) (znd pc 9 (zlf pc 9 (o_iret)) (zlf pc 10 (o_aload 0 11))))) (znd pc 16 (znd pc 11 (zlf pc 11 (o_getf 2 2 14)) (znd pc 14 (zlf pc 14 (o_istore 4 16)) (zlf pc 16 (o_const 0 17)))) (znd pc 19 (znd pc 17 (zlf pc 17 (o_istore 5 19)) (zlf pc 19 (o_const 0 20))) (znd pc 20 (zlf pc 20 (o_istore 6 22)) (zlf pc 22 (o_iload 6 24)))))) (znd pc 37 (znd pc 28 (znd pc 24 (zlf pc 24 (o_iload 1 25)) (znd pc 25 (zlf pc 25 (o_cge 66 28)) (zlf pc 28 (o_aload 0 29)))) (znd pc 32 (znd pc 29 (zlf pc 29 (o_callv 2 126 1 1 1 32)) (zlf pc 32 (o_ifeq 66 35))) (znd pc 35 (zlf pc 35 (o_const 10 37)) (zlf pc 37 (o_iload 5 39))))) (znd pc 44 (znd pc 40 (znd pc 39 (zlf pc 39 (o_imul 40)) (zlf pc 40 (o_aload 0 41))) (znd pc 41 (zlf pc 41 (o_callv 2 125 1 1 1 44)) (zlf pc 44 (o_iadd 45)))) (znd pc 47 (znd pc 45 (zlf pc 45 (o_const 48 47)) (zlf pc 47 (o_isub 48))) (znd pc 48 (zlf pc 48 (o_istore 5 50)) (zlf pc 50 (o_aload 0 51))))))) (znd pc 79 (znd pc 63 (znd pc 55 (znd pc 51 (zlf pc 51 (o_dup 52)) (znd pc 52 (zlf pc 52 (o_getf 2 2 55)) (zlf pc 55 (o_const 1 56)))) (znd pc 57 (znd pc 56 (zlf pc 56 (o_iadd 57)) (zlf pc 57 (o_putf 2 2 60))) (znd pc 60 (zlf pc 60 (o_iinc 6 1 63)) (zlf pc 63 (o_goto 22))))) (znd pc 70 (znd pc 66 (zlf pc 66 (o_aload 0 67)) (znd pc 67 (zlf pc 67 (o_getf 2 2 70)) (zlf pc 70 (o_iload 4 72)))) (znd pc 75 (znd pc 72 (zlf pc 72 (o_ceq 82 75)) (zlf pc 75 (o_aload 0 76))) (znd pc 76 (zlf pc 76 (o_callv 2 126 1 1 1 79)) (zlf pc 79 (o_ifeq 93 82)))))) (znd pc 95 (znd pc 84 (znd pc 82 (zlf pc 82 (o_aload 0 83)) (znd pc 83 (zlf pc 83 (o_aload 0 84)) (zlf pc 84 (o_getf 2 2 87)))) (znd pc 90 (znd pc 87 (zlf pc 87 (o_putf 2 3 90)) (zlf pc 90 (o_goto 109))) (znd pc 93 (zlf pc 93 (o_iload 5 95)) (zlf pc 95 (o_iload 2 96))))) (znd pc 103 (znd pc 97 (znd pc 96 (zlf pc 96 (o_iload 3 97)) (zlf pc 97 (o_call 33 3 3 1 100))) (znd pc 100 (zlf pc 100 (o_ifne 109 103)) (zlf pc 103 (o_aload 0 104)))) (znd pc 106 (znd pc 104 (zlf pc 104 (o_iload 4 106)) (zlf pc 106 (o_putf 2 3 109))) (znd pc 109 (zlf pc 109 (o_iload 5 111)) (zlf pc 111 (o_iret)))))))
/-- RepairShop$Planner.copyDraftTo([I)V -/
def zc_130 (pc : Nat) : zOp := znd pc 5 (znd pc 1 (znd pc 0 (zlf pc 0 (o_aload 0 1)) (zlf pc 1 (o_getf 3 1 4))) (znd pc 4 (zlf pc 4 (o_const 0 5)) (zlf pc 5 (o_aload 1 6)))) (znd pc 7 (znd pc 6 (zlf pc 6 (o_const 0 7)) (zlf pc 7 (o_const 30 9))) (znd pc 9 (zlf pc 9 (o_copy 12)) (zlf pc 12 (o_ret))))
/-- RepairShop$Planner.latenessOfDraft()I -/
def zc_131 (pc : Nat) : zOp := znd pc 4 (znd pc 0 (zlf pc 0 (o_aload 0 1)) (znd pc 1 (zlf pc 1 (o_getf 3 0 4)) (zlf pc 4 (o_aload 0 5)))) (znd pc 5 (zlf pc 5 (o_getf 3 1 8)) (znd pc 8 (zlf pc 8 (o_callv 4 161 2 4 1 11)) (zlf pc 11 (o_iret))))
/-- RepairShop$Planner.latenessOfNew(I)I -/
def zc_132 (pc : Nat) : zOp := znd pc 2 (znd pc 0 (zlf pc 0 (o_aload 0 1)) (znd pc 1 (zlf pc 1 (o_iload 1 2)) (zlf pc 2 (o_callv 3 134 2 2 0 5)))) (znd pc 5 (zlf pc 5 (o_aload 0 6)) (znd pc 6 (zlf pc 6 (o_callv 3 131 1 1 1 9)) (zlf pc 9 (o_iret))))
/-- RepairShop$Planner.latenessOfReplan(II)I -/
def zc_133 (pc : Nat) : zOp := znd pc 2 (znd pc 0 (zlf pc 0 (o_aload 0 1)) (znd pc 1 (zlf pc 1 (o_iload 1 2)) (zlf pc 2 (o_iload 2 3)))) (znd pc 6 (znd pc 3 (zlf pc 3 (o_callv 3 135 3 4 0 6)) (zlf pc 6 (o_aload 0 7))) (znd pc 7 (zlf pc 7 (o_callv 3 131 1 1 1 10)) (zlf pc 10 (o_iret))))
/-- RepairShop$Planner.draftNew(I)V -/
def zc_134 (pc : Nat) : zOp := znd pc 4 (znd pc 0 (zlf pc 0 (o_aload 0 1)) (znd pc 1 (zlf pc 1 (o_callv 3 136 1 2 0 4)) (zlf pc 4 (o_aload 0 5)))) (znd pc 6 (znd pc 5 (zlf pc 5 (o_const 0 6)) (zlf pc 6 (o_iload 1 7))) (znd pc 7 (zlf pc 7 (o_callv 3 138 3 8 0 10)) (zlf pc 10 (o_ret))))
/-- RepairShop$Planner.draftFrom(II)V -/
def zc_135 (pc : Nat) : zOp := znd pc 17 (znd pc 6 (znd pc 1 (znd pc 0 (zlf pc 0 (o_aload 0 1)) (zlf pc 1 (o_callv 3 136 1 2 0 4))) (znd pc 4 (zlf pc 4 (o_const 0 5)) (znd pc 5 (zlf pc 5 (o_istore 3 6)) (zlf pc 6 (o_iload 3 7))))) (znd pc 8 (znd pc 7 (zlf pc 7 (o_aload 0 8)) (zlf pc 8 (o_getf 3 0 11))) (znd pc 11 (zlf pc 11 (o_getf 4 1 14)) (znd pc 14 (zlf pc 14 (o_cge 29 17)) (zlf pc 17 (o_aload 0 18)))))) (znd pc 26 (znd pc 19 (znd pc 18 (zlf pc 18 (o_iload 3 19)) (zlf pc 19 (o_iload 1 20))) (znd pc 20 (zlf pc 20 (o_callv 3 137 3 6 0 23)) (znd pc 23 (zlf pc 23 (o_iinc 3 1 26)) (zlf pc 26 (o_goto 6))))) (znd pc 30 (znd pc 29 (zlf pc 29 (o_aload 0 30)) (zlf pc 30 (o_iload 1 31))) (znd pc 31 (zlf pc 31 (o_iload 2 32)) (znd pc 32 (zlf pc 32 (o_callv 3 138 3 8 0 35)) (zlf pc 35 (o_ret))))))
/-- RepairShop$Planner.clearDraft()V -/
def zc_136 (pc : Nat) : zOp := znd pc 18 (znd pc 8 (znd pc 2 (znd pc 0 (zlf pc 0 (o_const 0 1)) (znd pc 1 (zlf pc 1 (o_istore 1 2)) (zlf pc 2 (o_iload 1 3)))) (znd pc 3 (zlf pc 3 (o_const 6 5)) (znd pc 5 (zlf pc 5 (o_cge 21 8)) (zlf pc 8 (o_aload 0 9))))) (znd pc 13 (znd pc 9 (zlf pc 9 (o_getf 3 2 12)) (znd pc 12 (zlf pc 12 (o_iload 1 13)) (zlf pc 13 (o_const 0 14)))) (znd pc 14 (zlf pc 14 (o_iast 15)) (znd pc 15 (zlf pc 15 (o_iinc 1 1 18)) (zlf pc 18 (o_goto 2)))))) (znd pc 28 (znd pc 23 (znd pc 21 (zlf pc 21 (o_const 0 22)) (znd pc 22 (zlf pc 22 (o_istore 1 23)) (zlf pc 23 (o_iload 1 24)))) (znd pc 24 (zlf pc 24 (o_const 5 25)) (znd pc 25 (zlf pc 25 (o_cge 41 28)) (zlf pc 28 (o_aload 0 29))))) (znd pc 33 (znd pc 29 (zlf pc 29 (o_getf 3 3 32)) (znd pc 32 (zlf pc 32 (o_iload 1 33)) (zlf pc 33 (o_const 0 34)))) (znd pc 35 (znd pc 34 (zlf pc 34 (o_iast 35)) (zlf pc 35 (o_iinc 1 1 38))) (znd pc 38 (zlf pc 38 (o_goto 23)) (zlf pc 41 (o_ret))))))
/-- RepairShop$Planner.keepUntil(II)V -/
def zc_137 (pc : Nat) : zOp := znd pc 31 (znd pc 12 (znd pc 3 (znd pc 1 (znd pc 0 (zlf pc 0 (o_const 0 1)) (zlf pc 1 (o_istore 3 2))) (znd pc 2 (zlf pc 2 (o_iload 3 3)) (zlf pc 3 (o_aload 0 4)))) (znd pc 7 (znd pc 4 (zlf pc 4 (o_getf 3 0 7)) (zlf pc 7 (o_getf 4 4 10))) (znd pc 10 (zlf pc 10 (o_iload 1 11)) (znd pc 11 (zlf pc 11 (o_iald 12)) (zlf pc 12 (o_cge 68 15)))))) (znd pc 20 (znd pc 16 (znd pc 15 (zlf pc 15 (o_iload 1 16)) (zlf pc 16 (o_iload 3 17))) (znd pc 17 (zlf pc 17 (o_call 35 2 2 1 20)) (zlf pc 20 (o_istore 4 22)))) (znd pc 23 (znd pc 22 (zlf pc 22 (o_aload 0 23)) (zlf pc 23 (o_getf 3 0 26))) (znd pc 26 (zlf pc 26 (o_getf 4 13 29)) (znd pc 29 (zlf pc 29 (o_iload 4 31)) (zlf pc 31 (o_iald 32))))))) (znd pc 48 (znd pc 37 (znd pc 34 (znd pc 32 (zlf pc 32 (o_istore 5 34)) (zlf pc 34 (o_iload 5 36))) (znd pc 36 (zlf pc 36 (o_iload 2 37)) (zlf pc 37 (o_cge 54 40)))) (znd pc 41 (znd pc 40 (zlf pc 40 (o_aload 0 41)) (zlf pc 41 (o_getf 3 0 44))) (znd pc 44 (zlf pc 44 (o_iload 4 46)) (znd pc 46 (zlf pc 46 (o_iload 5 48)) (zlf pc 48 (o_callv 4 164 3 4 1 51)))))) (znd pc 56 (znd pc 54 (znd pc 51 (zlf pc 51 (o_ifeq 55 54)) (zlf pc 54 (o_ret))) (znd pc 55 (zlf pc 55 (o_aload 0 56)) (zlf pc 56 (o_iload 1 57)))) (znd pc 59 (znd pc 57 (zlf pc 57 (o_iload 5 59)) (zlf pc 59 (o_callv 3 142 3 5 0 62))) (znd pc 62 (zlf pc 62 (o_iinc 3 1 65)) (znd pc 65 (zlf pc 65 (o_goto 2)) (zlf pc 68 (o_ret)))))))
/-- RepairShop$Planner.fill(II)V -/
def zc_138 (pc : Nat) : zOp := znd pc 68 (znd pc 30 (znd pc 12 (znd pc 3 (znd pc 1 (znd pc 0 (zlf pc 0 (o_const 0 1)) (zlf pc 1 (o_istore 3 2))) (znd pc 2 (zlf pc 2 (o_iload 3 3)) (zlf pc 3 (o_const 30 5)))) (znd pc 8 (znd pc 5 (zlf pc 5 (o_cge 149 8)) (zlf pc 8 (o_const (-1) 9))) (znd pc 9 (zlf pc 9 (o_istore 4 11)) (znd pc 11 (zlf pc 11 (o_const 0 12)) (zlf pc 12 (o_istore 5 14)))))) (znd pc 19 (znd pc 15 (znd pc 14 (zlf pc 14 (o_const 0 15)) (zlf pc 15 (o_istore 6 17))) (znd pc 17 (zlf pc 17 (o_iload 6 19)) (zlf pc 19 (o_aload 0 20)))) (znd pc 23 (znd pc 20 (zlf pc 20 (o_getf 3 0 23)) (zlf pc 23 (o_getf 4 1 26))) (znd pc 26 (zlf pc 26 (o_cge 128 29)) (znd pc 29 (zlf pc 29 (o_aload 0 30)) (zlf pc 30 (o_getf 3 2 33))))))) (znd pc 49 (znd pc 37 (znd pc 35 (znd pc 33 (zlf pc 33 (o_iload 6 35)) (zlf pc 35 (o_iald 36))) (znd pc 36 (zlf pc 36 (o_aload 0 37)) (zlf pc 37 (o_getf 3 0 40)))) (znd pc 43 (znd pc 40 (zlf pc 40 (o_getf 4 4 43)) (zlf pc 43 (o_iload 6 45))) (znd pc 45 (zlf pc 45 (o_iald 46)) (znd pc 46 (zlf pc 46 (o_cge 122 49)) (zlf pc 49 (o_aload 0 50)))))) (znd pc 59 (znd pc 53 (znd pc 50 (zlf pc 50 (o_getf 3 0 53)) (zlf pc 53 (o_iload 6 55))) (znd pc 55 (zlf pc 55 (o_aload 0 56)) (znd pc 56 (zlf pc 56 (o_getf 3 2 59)) (zlf pc 59 (o_iload 6 61))))) (znd pc 62 (znd pc 61 (zlf pc 61 (o_iald 62)) (zlf pc 62 (o_call 35 2 2 1 65))) (znd pc 65 (zlf pc 65 (o_aload 0 66)) (znd pc 66 (zlf pc 66 (o_iload 6 68)) (zlf pc 68 (o_iload 1 69)))))))) (znd pc 107 (znd pc 87 (znd pc 77 (znd pc 72 (znd pc 69 (zlf pc 69 (o_callv 3 140 3 5 1 72)) (zlf pc 72 (o_callv 4 163 3 7 1 75))) (znd pc 75 (zlf pc 75 (o_istore 7 77)) (zlf pc 77 (o_iload 4 79)))) (znd pc 80 (znd pc 79 (zlf pc 79 (o_const (-1) 80)) (zlf pc 80 (o_ceq 114 83))) (znd pc 83 (zlf pc 83 (o_iload 7 85)) (znd pc 85 (zlf pc 85 (o_iload 5 87)) (zlf pc 87 (o_clt 114 90)))))) (znd pc 98 (znd pc 92 (znd pc 90 (zlf pc 90 (o_iload 7 92)) (zlf pc 92 (o_iload 5 94))) (znd pc 94 (zlf pc 94 (o_cne 122 97)) (znd pc 97 (zlf pc 97 (o_aload 0 98)) (zlf pc 98 (o_iload 6 100))))) (znd pc 101 (znd pc 100 (zlf pc 100 (o_iload 2 101)) (zlf pc 101 (o_callv 3 143 3 3 1 104))) (znd pc 104 (zlf pc 104 (o_aload 0 105)) (znd pc 105 (zlf pc 105 (o_iload 4 107)) (zlf pc 107 (o_iload 2 108))))))) (znd pc 128 (znd pc 116 (znd pc 111 (znd pc 108 (zlf pc 108 (o_callv 3 143 3 3 1 111)) (zlf pc 111 (o_cge 122 114))) (znd pc 114 (zlf pc 114 (o_iload 6 116)) (zlf pc 116 (o_istore 4 118)))) (znd pc 120 (znd pc 118 (zlf pc 118 (o_iload 7 120)) (zlf pc 120 (o_istore 5 122))) (znd pc 122 (zlf pc 122 (o_iinc 6 1 125)) (znd pc 125 (zlf pc 125 (o_goto 17)) (zlf pc 128 (o_iload 4 130)))))) (znd pc 136 (znd pc 131 (znd pc 130 (zlf pc 130 (o_const (-1) 131)) (zlf pc 131 (o_cne 135 134))) (znd pc 134 (zlf pc 134 (o_ret)) (znd pc 135 (zlf pc 135 (o_aload 0 136)) (zlf pc 136 (o_iload 4 138))))) (znd pc 140 (znd pc 138 (zlf pc 138 (o_iload 5 140)) (zlf pc 140 (o_callv 3 142 3 5 0 143))) (znd pc 143 (zlf pc 143 (o_iinc 3 1 146)) (znd pc 146 (zlf pc 146 (o_goto 2)) (zlf pc 149 (o_ret))))))))
/-- RepairShop$Planner.draftShifted()V -/
def zc_139 (pc : Nat) : zOp := znd pc 70 (znd pc 31 (znd pc 13 (znd pc 5 (znd pc 1 (znd pc 0 (zlf pc 0 (o_aload 0 1)) (zlf pc 1 (o_callv 3 136 1 2 0 4))) (znd pc 4 (zlf pc 4 (o_const 0 5)) (zlf pc 5 (o_istore 1 6)))) (znd pc 7 (znd pc 6 (zlf pc 6 (o_iload 1 7)) (zlf pc 7 (o_const 30 9))) (znd pc 9 (zlf pc 9 (o_cge 140 12)) (znd pc 12 (zlf pc 12 (o_const (-1) 13)) (zlf pc 13 (o_istore 2 14)))))) (znd pc 19 (znd pc 15 (znd pc 14 (zlf pc 14 (o_const 0 15)) (zlf pc 15 (o_istore 3 16))) (znd pc 16 (zlf pc 16 (o_const 0 17)) (znd pc 17 (zlf pc 17 (o_istore 4 19)) (zlf pc 19 (o_iload 4 21))))) (znd pc 22 (znd pc 21 (zlf pc 21 (o_aload 0 22)) (zlf pc 22 (o_getf 3 0 25))) (znd pc 25 (zlf pc 25 (o_getf 4 1 28)) (znd pc 28 (zlf pc 28 (o_cge 96 31)) (zlf pc 31 (o_aload 0 32))))))) (znd pc 48 (znd pc 38 (znd pc 35 (znd pc 32 (zlf pc 32 (o_getf 3 2 35)) (zlf pc 35 (o_iload 4 37))) (znd pc 37 (zlf pc 37 (o_iald 38)) (zlf pc 38 (o_aload 0 39)))) (znd pc 42 (znd pc 39 (zlf pc 39 (o_getf 3 0 42)) (zlf pc 42 (o_getf 4 4 45))) (znd pc 45 (zlf pc 45 (o_iload 4 47)) (znd pc 47 (zlf pc 47 (o_iald 48)) (zlf pc 48 (o_cge 90 51)))))) (znd pc 60 (znd pc 52 (znd pc 51 (zlf pc 51 (o_aload 0 52)) (zlf pc 52 (o_getf 3 0 55))) (znd pc 55 (zlf pc 55 (o_getf 4 12 58)) (znd pc 58 (zlf pc 58 (o_iload 4 60)) (zlf pc 60 (o_aload 0 61))))) (znd pc 64 (znd pc 61 (zlf pc 61 (o_getf 3 2 64)) (zlf pc 64 (o_iload 4 66))) (znd pc 66 (zlf pc 66 (o_iald 67)) (znd pc 67 (zlf pc 67 (o_call 35 2 2 1 70)) (zlf pc 70 (o_iald 71)))))))) (znd pc 103 (znd pc 86 (znd pc 75 (znd pc 73 (znd pc 71 (zlf pc 71 (o_istore 5 73)) (zlf pc 73 (o_iload 2 74))) (znd pc 74 (zlf pc 74 (o_const (-1) 75)) (zlf pc 75 (o_ceq 84 78)))) (znd pc 80 (znd pc 78 (zlf pc 78 (o_iload 5 80)) (zlf pc 80 (o_iload 3 81))) (znd pc 81 (zlf pc 81 (o_cge 90 84)) (znd pc 84 (zlf pc 84 (o_iload 4 86)) (zlf pc 86 (o_istore 2 87)))))) (znd pc 96 (znd pc 89 (znd pc 87 (zlf pc 87 (o_iload 5 89)) (zlf pc 89 (o_istore 3 90))) (znd pc 90 (zlf pc 90 (o_iinc 4 1 93)) (znd pc 93 (zlf pc 93 (o_goto 19)) (zlf pc 96 (o_iload 2 97))))) (znd pc 98 (znd pc 97 (zlf pc 97 (o_const (-1) 98)) (zlf pc 98 (o_cne 102 101))) (znd pc 101 (zlf pc 101 (o_ret)) (znd pc 102 (zlf pc 102 (o_iload 2 103)) (zlf pc 103 (o_aload 0 104))))))) (znd pc 117 (znd pc 109 (znd pc 107 (znd pc 104 (zlf pc 104 (o_getf 3 2 107)) (zlf pc 107 (o_iload 2 108))) (znd pc 108 (zlf pc 108 (o_iald 109)) (zlf pc 109 (o_call 35 2 2 1 112)))) (znd pc 114 (znd pc 112 (zlf pc 112 (o_istore 4 114)) (zlf pc 114 (o_aload 0 115))) (znd pc 115 (zlf pc 115 (o_iload 2 116)) (znd pc 116 (zlf pc 116 (o_aload 0 117)) (zlf pc 117 (o_getf 3 0 120)))))) (znd pc 125 (znd pc 122 (znd pc 120 (zlf pc 120 (o_iload 4 122)) (zlf pc 122 (o_aload 0 123))) (znd pc 123 (zlf pc 123 (o_iload 2 124)) (znd pc 124 (zlf pc 124 (o_iload 3 125)) (zlf pc 125 (o_callv 3 140 3 5 1 128))))) (znd pc 131 (znd pc 128 (zlf pc 128 (o_callv 4 163 3 7 1 131)) (zlf pc 131 (o_callv 3 142 3 5 0 134))) (znd pc 134 (zlf pc 134 (o_iinc 1 1 137)) (znd pc 137 (zlf pc 137 (o_goto 6)) (zlf pc 140 (o_ret))))))))
/-- RepairShop$Planner.waitUntil(II)I -/
def zc_140 (pc : Nat) : zOp := znd pc 34 (znd pc 13 (znd pc 6 (znd pc 1 (znd pc 0 (zlf pc 0 (o_iload 1 1)) (zlf pc 1 (o_aload 0 2))) (znd pc 2 (zlf pc 2 (o_getf 3 2 5)) (znd pc 5 (zlf pc 5 (o_iload 1 6)) (zlf pc 6 (o_iald 7))))) (znd pc 10 (znd pc 7 (zlf pc 7 (o_call 35 2 2 1 10)) (zlf pc 10 (o_istore 3 11))) (znd pc 11 (zlf pc 11 (o_iload 2 12)) (znd pc 12 (zlf pc 12 (o_aload 0 13)) (zlf pc 13 (o_aload 0 14)))))) (znd pc 22 (znd pc 17 (znd pc 14 (zlf pc 14 (o_getf 3 0 17)) (zlf pc 17 (o_getf 4 5 20))) (znd pc 20 (zlf pc 20 (o_iload 3 21)) (znd pc 21 (zlf pc 21 (o_iald 22)) (zlf pc 22 (o_callv 3 141 2 2 1 25))))) (znd pc 28 (znd pc 25 (zlf pc 25 (o_max 28)) (zlf pc 28 (o_istore 4 30))) (znd pc 30 (zlf pc 30 (o_aload 0 31)) (znd pc 31 (zlf pc 31 (o_getf 3 2 34)) (zlf pc 34 (o_iload 1 35))))))) (znd pc 49 (znd pc 42 (znd pc 36 (znd pc 35 (zlf pc 35 (o_iald 36)) (zlf pc 36 (o_ifle 66 39))) (znd pc 39 (zlf pc 39 (o_iload 4 41)) (znd pc 41 (zlf pc 41 (o_aload 0 42)) (zlf pc 42 (o_getf 3 1 45))))) (znd pc 46 (znd pc 45 (zlf pc 45 (o_iload 3 46)) (zlf pc 46 (o_const 1 47))) (znd pc 47 (zlf pc 47 (o_isub 48)) (znd pc 48 (zlf pc 48 (o_iald 49)) (zlf pc 49 (o_aload 0 50)))))) (znd pc 58 (znd pc 53 (znd pc 50 (zlf pc 50 (o_getf 3 0 53)) (zlf pc 53 (o_getf 4 6 56))) (znd pc 56 (zlf pc 56 (o_iload 3 57)) (znd pc 57 (zlf pc 57 (o_const 1 58)) (zlf pc 58 (o_isub 59))))) (znd pc 61 (znd pc 59 (zlf pc 59 (o_iald 60)) (znd pc 60 (zlf pc 60 (o_iadd 61)) (zlf pc 61 (o_max 64)))) (znd pc 64 (zlf pc 64 (o_istore 4 66)) (znd pc 66 (zlf pc 66 (o_iload 4 68)) (zlf pc 68 (o_iret)))))))
/-- RepairShop$Planner.machineFreeFrom(I)I -/
def zc_141 (pc : Nat) : zOp := znd pc 9 (znd pc 4 (znd pc 0 (zlf pc 0 (o_iload 1 1)) (znd pc 1 (zlf pc 1 (o_iflt 18 4)) (zlf pc 4 (o_iload 1 5)))) (znd pc 5 (zlf pc 5 (o_const 5 6)) (znd pc 6 (zlf pc 6 (o_cge 18 9)) (zlf pc 9 (o_aload 0 10))))) (znd pc 14 (znd pc 10 (zlf pc 10 (o_getf 3 3 13)) (znd pc 13 (zlf pc 13 (o_iload 1 14)) (zlf pc 14 (o_iald 15)))) (znd pc 15 (zlf pc 15 (o_goto 19)) (znd pc 18 (zlf pc 18 (o_const 0 19)) (zlf pc 19 (o_iret)))))
/-- RepairShop$Planner.setStart(II)V -/
def zc_142 (pc : Nat) : zOp := znd pc 40 (znd pc 19 (znd pc 7 (znd pc 2 (znd pc 0 (zlf pc 0 (o_iload 1 1)) (znd pc 1 (zlf pc 1 (o_aload 0 2)) (zlf pc 2 (o_getf 3 2 5)))) (znd pc 5 (zlf pc 5 (o_iload 1 6)) (znd pc 6 (zlf pc 6 (o_iald 7)) (zlf pc 7 (o_call 35 2 2 1 10))))) (znd pc 12 (znd pc 10 (zlf pc 10 (o_istore 3 11)) (znd pc 11 (zlf pc 11 (o_aload 0 12)) (zlf pc 12 (o_getf 3 0 15)))) (znd pc 15 (zlf pc 15 (o_getf 4 5 18)) (znd pc 18 (zlf pc 18 (o_iload 3 19)) (zlf pc 19 (o_iald 20)))))) (znd pc 28 (znd pc 23 (znd pc 20 (zlf pc 20 (o_istore 4 22)) (znd pc 22 (zlf pc 22 (o_aload 0 23)) (zlf pc 23 (o_getf 3 1 26)))) (znd pc 26 (zlf pc 26 (o_iload 3 27)) (znd pc 27 (zlf pc 27 (o_iload 2 28)) (zlf pc 28 (o_iast 29))))) (znd pc 34 (znd pc 29 (zlf pc 29 (o_iload 4 31)) (znd pc 31 (zlf pc 31 (o_iflt 68 34)) (zlf pc 34 (o_iload 4 36)))) (znd pc 36 (zlf pc 36 (o_const 5 37)) (znd pc 37 (zlf pc 37 (o_cge 68 40)) (zlf pc 40 (o_aload 0 41))))))) (znd pc 62 (znd pc 52 (znd pc 46 (znd pc 41 (zlf pc 41 (o_getf 3 3 44)) (znd pc 44 (zlf pc 44 (o_iload 4 46)) (zlf pc 46 (o_aload 0 47)))) (znd pc 47 (zlf pc 47 (o_getf 3 3 50)) (znd pc 50 (zlf pc 50 (o_iload 4 52)) (zlf pc 52 (o_iald 53))))) (znd pc 55 (znd pc 53 (zlf pc 53 (o_iload 2 54)) (znd pc 54 (zlf pc 54 (o_aload 0 55)) (zlf pc 55 (o_getf 3 0 58)))) (znd pc 58 (zlf pc 58 (o_getf 4 6 61)) (znd pc 61 (zlf pc 61 (o_iload 3 62)) (zlf pc 62 (o_iald 63)))))) (znd pc 72 (znd pc 67 (znd pc 63 (zlf pc 63 (o_iadd 64)) (znd pc 64 (zlf pc 64 (o_max 67)) (zlf pc 67 (o_iast 68)))) (znd pc 68 (zlf pc 68 (o_aload 0 69)) (znd pc 69 (zlf pc 69 (o_getf 3 2 72)) (zlf pc 72 (o_iload 1 73))))) (znd pc 75 (znd pc 73 (zlf pc 73 (o_dup2 74)) (znd pc 74 (zlf pc 74 (o_iald 75)) (zlf pc 75 (o_const 1 76)))) (znd pc 76 (zlf pc 76 (o_iadd 77)) (znd pc 77 (zlf pc 77 (o_iast 78)) (zlf pc 78 (o_ret)))))))
/-- RepairShop$Planner.rank(II)I -/
def zc_143 (pc : Nat) : zOp := znd pc 55 (znd pc 40 (znd pc 29 (znd pc 1 (znd pc 0 (zlf pc 0 (o_iload 2 1)) (zlf pc 1 (o_sw [(0, 28), (1, 47), (2, 57)] 68))) (znd pc 28 (zlf pc 28 (o_aload 0 29)) (zlf pc 29 (o_getf 3 0 32)))) (znd pc 35 (znd pc 32 (zlf pc 32 (o_getf 4 6 35)) (zlf pc 35 (o_iload 1 36))) (znd pc 36 (zlf pc 36 (o_aload 0 37)) (znd pc 37 (zlf pc 37 (o_getf 3 2 40)) (zlf pc 40 (o_iload 1 41)))))) (znd pc 46 (znd pc 42 (znd pc 41 (zlf pc 41 (o_iald 42)) (zlf pc 42 (o_call 35 2 2 1 45))) (znd pc 45 (zlf pc 45 (o_iald 46)) (zlf pc 46 (o_iret)))) (znd pc 48 (znd pc 47 (zlf pc 47 (o_aload 0 48)) (zlf pc 48 (o_getf 3 0 51))) (znd pc 51 (zlf pc 51 (o_getf 4 3 54)) (znd pc 54 (zlf pc 54 (o_iload 1 55)) (zlf pc 55 (o_iald 56))))))) (znd pc 68 (znd pc 61 (znd pc 57 (znd pc 56 (zlf pc 56 (o_iret)) (zlf pc 57 (o_aload 0 58))) (znd pc 58 (zlf pc 58 (o_getf 3 0 61)) (zlf pc 61 (o_getf 4 2 64)))) (znd pc 65 (znd pc 64 (zlf pc 64 (o_iload 1 65)) (zlf pc 65 (o_iald 66))) (znd pc 66 (zlf pc 66 (o_ineg 67)) (znd pc 67 (zlf pc 67 (o_iret)) (zlf pc 68 (o_aload 0 69)))))) (znd pc 77 (znd pc 72 (znd pc 69 (zlf pc 69 (o_getf 3 0 72)) (zlf pc 72 (o_getf 4 4 75))) (znd pc 75 (zlf pc 75 (o_iload 1 76)) (znd pc 76 (zlf pc 76 (o_iald 77)) (zlf pc 77 (o_aload 0 78))))) (znd pc 81 (znd pc 78 (zlf pc 78 (o_getf 3 2 81)) (zlf pc 81 (o_iload 1 82))) (znd pc 82 (zlf pc 82 (o_iald 83)) (znd pc 83 (zlf pc 83 (o_isub 84)) (zlf pc 84 (o_iret)))))))
/-- RepairShop$Shop.empty(I)V -/
def zc_144 (pc : Nat) : zOp := znd pc 11 (znd pc 5 (znd pc 1 (znd pc 0 (zlf pc 0 (o_aload 0 1)) (zlf pc 1 (o_iload 1 2))) (znd pc 2 (zlf pc 2 (o_putf 4 0 5)) (zlf pc 5 (o_aload 0 6)))) (znd pc 7 (znd pc 6 (zlf pc 6 (o_const 0 7)) (zlf pc 7 (o_putf 4 1 10))) (znd pc 10 (zlf pc 10 (o_aload 0 11)) (zlf pc 11 (o_const 0 12))))) (znd pc 17 (znd pc 15 (znd pc 12 (zlf pc 12 (o_putf 4 7 15)) (zlf pc 15 (o_aload 0 16))) (znd pc 16 (zlf pc 16 (o_const 0 17)) (zlf pc 17 (o_putz 4 11 20)))) (znd pc 21 (znd pc 20 (zlf pc 20 (o_aload 0 21)) (zlf pc 21 (o_const 0 22))) (znd pc 22 (zlf pc 22 (o_putf 4 14 25)) (zlf pc 25 (o_ret)))))
/-- RepairShop$Shop.copyFrom(LRepairShop$Shop;)V -/
def zc_145 (pc : Nat) : zOp := znd pc 94 (znd pc 46 (znd pc 21 (znd pc 9 (znd pc 2 (znd pc 0 (zlf pc 0 (o_aload 0 1)) (znd pc 1 (zlf pc 1 (o_aload 1 2)) (zlf pc 2 (o_getf 4 0 5)))) (znd pc 5 (zlf pc 5 (o_putf 4 0 8)) (znd pc 8 (zlf pc 8 (o_aload 0 9)) (zlf pc 9 (o_aload 1 10))))) (znd pc 16 (znd pc 10 (zlf pc 10 (o_getf 4 1 13)) (znd pc 13 (zlf pc 13 (o_putf 4 1 16)) (zlf pc 16 (o_aload 0 17)))) (znd pc 17 (zlf pc 17 (o_aload 1 18)) (znd pc 18 (zlf pc 18 (o_getf 4 7 21)) (zlf pc 21 (o_putf 4 7 24)))))) (znd pc 33 (znd pc 26 (znd pc 24 (zlf pc 24 (o_aload 0 25)) (znd pc 25 (zlf pc 25 (o_aload 1 26)) (zlf pc 26 (o_getf 4 11 29)))) (znd pc 29 (zlf pc 29 (o_putz 4 11 32)) (znd pc 32 (zlf pc 32 (o_aload 0 33)) (zlf pc 33 (o_aload 1 34))))) (znd pc 40 (znd pc 34 (zlf pc 34 (o_getf 4 14 37)) (znd pc 37 (zlf pc 37 (o_putf 4 14 40)) (zlf pc 40 (o_aload 1 41)))) (znd pc 44 (znd pc 41 (zlf pc 41 (o_getf 4 2 44)) (zlf pc 44 (o_const 0 45))) (znd pc 45 (zlf pc 45 (o_aload 0 46)) (zlf pc 46 (o_getf 4 2 49))))))) (znd pc 70 (znd pc 59 (znd pc 52 (znd pc 49 (zlf pc 49 (o_const 0 50)) (znd pc 50 (zlf pc 50 (o_const 6 52)) (zlf pc 52 (o_copy 55)))) (znd pc 55 (zlf pc 55 (o_aload 1 56)) (znd pc 56 (zlf pc 56 (o_getf 4 3 59)) (zlf pc 59 (o_const 0 60))))) (znd pc 64 (znd pc 60 (zlf pc 60 (o_aload 0 61)) (znd pc 61 (zlf pc 61 (o_getf 4 3 64)) (zlf pc 64 (o_const 0 65)))) (znd pc 65 (zlf pc 65 (o_const 6 67)) (znd pc 67 (zlf pc 67 (o_copy 70)) (zlf pc 70 (o_aload 1 71)))))) (znd pc 80 (znd pc 75 (znd pc 71 (zlf pc 71 (o_getf 4 4 74)) (znd pc 74 (zlf pc 74 (o_const 0 75)) (zlf pc 75 (o_aload 0 76)))) (znd pc 76 (zlf pc 76 (o_getf 4 4 79)) (znd pc 79 (zlf pc 79 (o_const 0 80)) (zlf pc 80 (o_const 6 82))))) (znd pc 86 (znd pc 82 (zlf pc 82 (o_copy 85)) (znd pc 85 (zlf pc 85 (o_aload 1 86)) (zlf pc 86 (o_getf 4 5 89)))) (znd pc 90 (znd pc 89 (zlf pc 89 (o_const 0 90)) (zlf pc 90 (o_aload 0 91))) (znd pc 91 (zlf pc 91 (o_getf 4 5 94)) (zlf pc 94 (o_const 0 95)))))))) (znd pc 140 (znd pc 116 (znd pc 105 (znd pc 100 (znd pc 95 (zlf pc 95 (o_const 30 97)) (znd pc 97 (zlf pc 97 (o_copy 100)) (zlf pc 100 (o_aload 1 101)))) (znd pc 101 (zlf pc 101 (o_getf 4 6 104)) (znd pc 104 (zlf pc 104 (o_const 0 105)) (zlf pc 105 (o_aload 0 106))))) (znd pc 110 (znd pc 106 (zlf pc 106 (o_getf 4 6 109)) (znd pc 109 (zlf pc 109 (o_const 0 110)) (zlf pc 110 (o_const 30 112)))) (znd pc 112 (zlf pc 112 (o_copy 115)) (znd pc 115 (zlf pc 115 (o_aload 1 116)) (zlf pc 116 (o_getf 4 8 119)))))) (znd pc 127 (znd pc 121 (znd pc 119 (zlf pc 119 (o_const 0 120)) (znd pc 120 (zlf pc 120 (o_aload 0 121)) (zlf pc 121 (o_getf 4 8 124)))) (znd pc 124 (zlf pc 124 (o_const 0 125)) (znd pc 125 (zlf pc 125 (o_const 6 127)) (zlf pc 127 (o_copy 130))))) (znd pc 134 (znd pc 130 (zlf pc 130 (o_aload 1 131)) (znd pc 131 (zlf pc 131 (o_getf 4 9 134)) (zlf pc 134 (o_const 0 135)))) (znd pc 136 (znd pc 135 (zlf pc 135 (o_aload 0 136)) (zlf pc 136 (o_getf 4 9 139))) (znd pc 139 (zlf pc 139 (o_const 0 140)) (zlf pc 140 (o_const 6 142))))))) (znd pc 165 (znd pc 151 (znd pc 146 (znd pc 142 (zlf pc 142 (o_copy 145)) (znd pc 145 (zlf pc 145 (o_aload 1 146)) (zlf pc 146 (o_getf 4 10 149)))) (znd pc 149 (zlf pc 149 (o_const 0 150)) (znd pc 150 (zlf pc 150 (o_aload 0 151)) (zlf pc 151 (o_getf 4 10 154))))) (znd pc 157 (znd pc 154 (zlf pc 154 (o_const 0 155)) (znd pc 155 (zlf pc 155 (o_const 6 157)) (zlf pc 157 (o_copy 160)))) (znd pc 161 (znd pc 160 (zlf pc 160 (o_aload 1 161)) (zlf pc 161 (o_getf 4 12 164))) (znd pc 164 (zlf pc 164 (o_const 0 165)) (zlf pc 165 (o_aload 0 166)))))) (znd pc 176 (znd pc 170 (znd pc 166 (zlf pc 166 (o_getf 4 12 169)) (znd pc 169 (zlf pc 169 (o_const 0 170)) (zlf pc 170 (o_const 30 172)))) (znd pc 172 (zlf pc 172 (o_copy 175)) (znd pc 175 (zlf pc 175 (o_aload 1 176)) (zlf pc 176 (o_getf 4 13 179))))) (znd pc 181 (znd pc 179 (zlf pc 179 (o_const 0 180)) (znd pc 180 (zlf pc 180 (o_aload 0 181)) (zlf pc 181 (o_getf 4 13 184)))) (znd pc 185 (znd pc 184 (zlf pc 184 (o_const 0 185)) (zlf pc 185 (o_const 30 187))) (znd pc 187 (zlf pc 187 (o_copy 190)) (zlf pc 190 (o_ret))))))))
/-- RepairShop$Shop.hasMachine(I)Z -/
def zc_146 (pc : Nat) : zOp := znd pc 6 (znd pc 1 (znd pc 0 (zlf pc 0 (o_iload 1 1)) (zlf pc 1 (o_iflt 16 4))) (znd pc 4 (zlf pc 4 (o_iload 1 5)) (znd pc 5 (zlf pc 5 (o_aload 0 6)) (zlf pc 6 (o_getf 4 0 9))))) (znd pc 12 (znd pc 9 (zlf pc 9 (o_cge 16 12)) (zlf pc 12 (o_const 1 13))) (znd pc 13 (zlf pc 13 (o_goto 17)) (znd pc 16 (zlf pc 16 (o_const 0 17)) (zlf pc 17 (o_zret)))))
/-- RepairShop$Shop.hasJob(I)Z -/
def zc_147 (pc : Nat) : zOp := znd pc 6 (znd pc 1 (znd pc 0 (zlf pc 0 (o_iload 1 1)) (zlf pc 1 (o_iflt 16 4))) (znd pc 4 (zlf pc 4 (o_iload 1 5)) (znd pc 5 (zlf pc 5 (o_aload 0 6)) (zlf pc 6 (o_getf 4 1 9))))) (znd pc 12 (znd pc 9 (zlf pc 9 (o_cge 16 12)) (zlf pc 12 (o_const 1 13))) (znd pc 13 (zlf pc 13 (o_goto 17)) (znd pc 16 (zlf pc 16 (o_const 0 17)) (zlf pc 17 (o_zret)))))
/-- RepairShop$Shop.hasOperation(II)Z -/
def zc_148 (pc : Nat) : zOp := znd pc 13 (znd pc 5 (znd pc 1 (znd pc 0 (zlf pc 0 (o_aload 0 1)) (zlf pc 1 (o_iload 1 2))) (znd pc 2 (zlf pc 2 (o_callv 4 147 2 2 1 5)) (zlf pc 5 (o_ifeq 26 8)))) (znd pc 9 (znd pc 8 (zlf pc 8 (o_iload 2 9)) (zlf pc 9 (o_iflt 26 12))) (znd pc 12 (zlf pc 12 (o_iload 2 13)) (zlf pc 13 (o_aload 0 14))))) (znd pc 19 (znd pc 17 (znd pc 14 (zlf pc 14 (o_getf 4 4 17)) (zlf pc 17 (o_iload 1 18))) (znd pc 18 (zlf pc 18 (o_iald 19)) (zlf pc 19 (o_cge 26 22)))) (znd pc 23 (znd pc 22 (zlf pc 22 (o_const 1 23)) (zlf pc 23 (o_goto 27))) (znd pc 26 (zlf pc 26 (o_const 0 27)) (zlf pc 27 (o_zret)))))
/-- RepairShop$Shop.hasBreakdown(I)Z -/
def zc_149 (pc : Nat) : zOp := znd pc 6 (znd pc 1 (znd pc 0 (zlf pc 0 (o_iload 1 1)) (zlf pc 1 (o_iflt 16 4))) (znd pc 4 (zlf pc 4 (o_iload 1 5)) (znd pc 5 (zlf pc 5 (o_aload 0 6)) (zlf pc 6 (o_getf 4 7 9))))) (znd pc 12 (znd pc 9 (zlf pc 9 (o_cge 16 12)) (zlf pc 12 (o_const 1 13))) (znd pc 13 (zlf pc 13 (o_goto 17)) (znd pc 16 (zlf pc 16 (o_const 0 17)) (zlf pc 17 (o_zret)))))
/-- RepairShop$Shop.takesJob()Z -/
def zc_150 (pc : Nat) : zOp := znd pc 6 (znd pc 1 (znd pc 0 (zlf pc 0 (o_aload 0 1)) (zlf pc 1 (o_getf 4 1 4))) (znd pc 4 (zlf pc 4 (o_const 6 6)) (zlf pc 6 (o_cge 13 9)))) (znd pc 10 (znd pc 9 (zlf pc 9 (o_const 1 10)) (zlf pc 10 (o_goto 14))) (znd pc 13 (zlf pc 13 (o_const 0 14)) (zlf pc 14 (o_zret))))
/-- RepairShop$Shop.takesOperation(I)Z -/
def zc_151 (pc : Nat) : zOp := znd pc 6 (znd pc 1 (znd pc 0 (zlf pc 0 (o_aload 0 1)) (zlf pc 1 (o_getf 4 4 4))) (znd pc 4 (zlf pc 4 (o_iload 1 5)) (znd pc 5 (zlf pc 5 (o_iald 6)) (zlf pc 6 (o_const 5 7))))) (znd pc 10 (znd pc 7 (zlf pc 7 (o_cge 14 10)) (zlf pc 10 (o_const 1 11))) (znd pc 11 (zlf pc 11 (o_goto 15)) (znd pc 14 (zlf pc 14 (o_const 0 15)) (zlf pc 15 (o_zret)))))
/-- RepairShop$Shop.takesBreakdown()Z -/
def zc_152 (pc : Nat) : zOp := znd pc 6 (znd pc 1 (znd pc 0 (zlf pc 0 (o_aload 0 1)) (zlf pc 1 (o_getf 4 7 4))) (znd pc 4 (zlf pc 4 (o_const 6 6)) (zlf pc 6 (o_cge 13 9)))) (znd pc 10 (znd pc 9 (zlf pc 9 (o_const 1 10)) (zlf pc 10 (o_goto 14))) (znd pc 13 (zlf pc 13 (o_const 0 14)) (zlf pc 14 (o_zret))))
/-- RepairShop$Shop.takeJob(II)I -/
def zc_153 (pc : Nat) : zOp := znd pc 25 (znd pc 11 (znd pc 5 (znd pc 1 (znd pc 0 (zlf pc 0 (o_aload 0 1)) (zlf pc 1 (o_getf 4 2 4))) (znd pc 4 (zlf pc 4 (o_aload 0 5)) (zlf pc 5 (o_getf 4 1 8)))) (znd pc 9 (znd pc 8 (zlf pc 8 (o_iload 1 9)) (zlf pc 9 (o_iast 10))) (znd pc 10 (zlf pc 10 (o_aload 0 11)) (zlf pc 11 (o_getf 4 3 14))))) (znd pc 19 (znd pc 15 (znd pc 14 (zlf pc 14 (o_aload 0 15)) (zlf pc 15 (o_getf 4 1 18))) (znd pc 18 (zlf pc 18 (o_iload 2 19)) (zlf pc 19 (o_iast 20)))) (znd pc 21 (znd pc 20 (zlf pc 20 (o_aload 0 21)) (zlf pc 21 (o_getf 4 4 24))) (znd pc 24 (zlf pc 24 (o_aload 0 25)) (zlf pc 25 (o_getf 4 1 28)))))) (znd pc 37 (znd pc 31 (znd pc 29 (znd pc 28 (zlf pc 28 (o_const 0 29)) (zlf pc 29 (o_iast 30))) (znd pc 30 (zlf pc 30 (o_aload 0 31)) (zlf pc 31 (o_const 0 32)))) (znd pc 35 (znd pc 32 (zlf pc 32 (o_putz 4 11 35)) (zlf pc 35 (o_aload 0 36))) (znd pc 36 (zlf pc 36 (o_dup 37)) (zlf pc 37 (o_getf 4 1 40))))) (znd pc 45 (znd pc 41 (znd pc 40 (zlf pc 40 (o_const 1 41)) (zlf pc 41 (o_iadd 42))) (znd pc 42 (zlf pc 42 (o_putf 4 1 45)) (zlf pc 45 (o_aload 0 46)))) (znd pc 49 (znd pc 46 (zlf pc 46 (o_getf 4 1 49)) (zlf pc 49 (o_const 1 50))) (znd pc 50 (zlf pc 50 (o_isub 51)) (zlf pc 51 (o_iret))))))
/-- RepairShop$Shop.takeOperation(III)I -/
def zc_154 (pc : Nat) : zOp := znd pc 27 (znd pc 12 (znd pc 5 (znd pc 1 (znd pc 0 (zlf pc 0 (o_iload 1 1)) (zlf pc 1 (o_aload 0 2))) (znd pc 2 (zlf pc 2 (o_getf 4 4 5)) (zlf pc 5 (o_iload 1 6)))) (znd pc 7 (znd pc 6 (zlf pc 6 (o_iald 7)) (zlf pc 7 (o_call 35 2 2 1 10))) (znd pc 10 (zlf pc 10 (o_istore 4 12)) (zlf pc 12 (o_aload 0 13))))) (znd pc 19 (znd pc 16 (znd pc 13 (zlf pc 13 (o_getf 4 5 16)) (zlf pc 16 (o_iload 4 18))) (znd pc 18 (zlf pc 18 (o_iload 2 19)) (zlf pc 19 (o_iast 20)))) (znd pc 21 (znd pc 20 (zlf pc 20 (o_aload 0 21)) (zlf pc 21 (o_getf 4 6 24))) (znd pc 24 (zlf pc 24 (o_iload 4 26)) (znd pc 26 (zlf pc 26 (o_iload 3 27)) (zlf pc 27 (o_iast 28))))))) (znd pc 40 (znd pc 33 (znd pc 29 (znd pc 28 (zlf pc 28 (o_aload 0 29)) (zlf pc 29 (o_const 0 30))) (znd pc 30 (zlf pc 30 (o_putz 4 11 33)) (zlf pc 33 (o_aload 0 34)))) (znd pc 37 (znd pc 34 (zlf pc 34 (o_getf 4 4 37)) (zlf pc 37 (o_iload 1 38))) (znd pc 38 (zlf pc 38 (o_dup2 39)) (znd pc 39 (zlf pc 39 (o_iald 40)) (zlf pc 40 (o_const 1 41)))))) (znd pc 44 (znd pc 42 (znd pc 41 (zlf pc 41 (o_iadd 42)) (zlf pc 42 (o_iast 43))) (znd pc 43 (zlf pc 43 (o_aload 0 44)) (zlf pc 44 (o_getf 4 4 47)))) (znd pc 48 (znd pc 47 (zlf pc 47 (o_iload 1 48)) (zlf pc 48 (o_iald 49))) (znd pc 49 (zlf pc 49 (o_const 1 50)) (znd pc 50 (zlf pc 50 (o_isub 51)) (zlf pc 51 (o_iret)))))))
/-- RepairShop$Shop.takeBreakdown(III)I -/
def zc_155 (pc : Nat) : zOp := znd pc 21 (znd pc 10 (znd pc 4 (znd pc 0 (zlf pc 0 (o_aload 0 1)) (znd pc 1 (zlf pc 1 (o_getf 4 8 4)) (zlf pc 4 (o_aload 0 5)))) (znd pc 8 (znd pc 5 (zlf pc 5 (o_getf 4 7 8)) (zlf pc 8 (o_iload 1 9))) (znd pc 9 (zlf pc 9 (o_iast 10)) (zlf pc 10 (o_aload 0 11))))) (znd pc 15 (znd pc 11 (zlf pc 11 (o_getf 4 9 14)) (znd pc 14 (zlf pc 14 (o_aload 0 15)) (zlf pc 15 (o_getf 4 7 18)))) (znd pc 19 (znd pc 18 (zlf pc 18 (o_iload 2 19)) (zlf pc 19 (o_iast 20))) (znd pc 20 (zlf pc 20 (o_aload 0 21)) (zlf pc 21 (o_getf 4 10 24)))))) (znd pc 32 (znd pc 28 (znd pc 24 (zlf pc 24 (o_aload 0 25)) (znd pc 25 (zlf pc 25 (o_getf 4 7 28)) (zlf pc 28 (o_iload 3 29)))) (znd pc 30 (znd pc 29 (zlf pc 29 (o_iast 30)) (zlf pc 30 (o_aload 0 31))) (znd pc 31 (zlf pc 31 (o_dup 32)) (zlf pc 32 (o_getf 4 7 35))))) (znd pc 40 (znd pc 36 (znd pc 35 (zlf pc 35 (o_const 1 36)) (zlf pc 36 (o_iadd 37))) (znd pc 37 (zlf pc 37 (o_putf 4 7 40)) (zlf pc 40 (o_aload 0 41)))) (znd pc 44 (znd pc 41 (zlf pc 41 (o_getf 4 7 44)) (zlf pc 44 (o_const 1 45))) (znd pc 45 (zlf pc 45 (o_isub 46)) (zlf pc 46 (o_iret))))))
/-- RepairShop$Shop.countOperations()I -/
def zc_156 (pc : Nat) : zOp := znd pc 12 (znd pc 3 (znd pc 1 (znd pc 0 (zlf pc 0 (o_const 0 1)) (zlf pc 1 (o_istore 1 2))) (znd pc 2 (zlf pc 2 (o_const 0 3)) (zlf pc 3 (o_istore 2 4)))) (znd pc 5 (znd pc 4 (zlf pc 4 (o_iload 2 5)) (zlf pc 5 (o_aload 0 6))) (znd pc 6 (zlf pc 6 (o_getf 4 1 9)) (znd pc 9 (zlf pc 9 (o_cge 27 12)) (zlf pc 12 (o_iload 1 13)))))) (znd pc 19 (znd pc 14 (znd pc 13 (zlf pc 13 (o_aload 0 14)) (zlf pc 14 (o_getf 4 4 17))) (znd pc 17 (zlf pc 17 (o_iload 2 18)) (znd pc 18 (zlf pc 18 (o_iald 19)) (zlf pc 19 (o_iadd 20))))) (znd pc 21 (znd pc 20 (zlf pc 20 (o_istore 1 21)) (zlf pc 21 (o_iinc 2 1 24))) (znd pc 24 (zlf pc 24 (o_goto 4)) (znd pc 27 (zlf pc 27 (o_iload 1 28)) (zlf pc 28 (o_iret))))))
/-- RepairShop$Shop.workOf(I)I -/
def zc_157 (pc : Nat) : zOp := znd pc 14 (znd pc 4 (znd pc 1 (znd pc 0 (zlf pc 0 (o_const 0 1)) (zlf pc 1 (o_istore 2 2))) (znd pc 2 (zlf pc 2 (o_const 0 3)) (znd pc 3 (zlf pc 3 (o_istore 3 4)) (zlf pc 4 (o_iload 3 5))))) (znd pc 9 (znd pc 5 (zlf pc 5 (o_aload 0 6)) (znd pc 6 (zlf pc 6 (o_getf 4 4 9)) (zlf pc 9 (o_iload 1 10)))) (znd pc 10 (zlf pc 10 (o_iald 11)) (znd pc 11 (zlf pc 11 (o_cge 33 14)) (zlf pc 14 (o_iload 2 15)))))) (znd pc 24 (znd pc 19 (znd pc 15 (zlf pc 15 (o_aload 0 16)) (znd pc 16 (zlf pc 16 (o_getf 4 6 19)) (zlf pc 19 (o_iload 1 20)))) (znd pc 20 (zlf pc 20 (o_iload 3 21)) (znd pc 21 (zlf pc 21 (o_call 35 2 2 1 24)) (zlf pc 24 (o_iald 25))))) (znd pc 27 (znd pc 25 (zlf pc 25 (o_iadd 26)) (znd pc 26 (zlf pc 26 (o_istore 2 27)) (zlf pc 27 (o_iinc 3 1 30)))) (znd pc 30 (zlf pc 30 (o_goto 4)) (znd pc 33 (zlf pc 33 (o_iload 2 34)) (zlf pc 34 (o_iret))))))
/-- RepairShop$Shop.allWork()I -/
def zc_158 (pc : Nat) : zOp := znd pc 12 (znd pc 3 (znd pc 1 (znd pc 0 (zlf pc 0 (o_const 0 1)) (zlf pc 1 (o_istore 1 2))) (znd pc 2 (zlf pc 2 (o_const 0 3)) (zlf pc 3 (o_istore 2 4)))) (znd pc 5 (znd pc 4 (zlf pc 4 (o_iload 2 5)) (zlf pc 5 (o_aload 0 6))) (znd pc 6 (zlf pc 6 (o_getf 4 1 9)) (znd pc 9 (zlf pc 9 (o_cge 26 12)) (zlf pc 12 (o_iload 1 13)))))) (znd pc 18 (znd pc 14 (znd pc 13 (zlf pc 13 (o_aload 0 14)) (zlf pc 14 (o_iload 2 15))) (znd pc 15 (zlf pc 15 (o_callv 4 157 2 4 1 18)) (zlf pc 18 (o_iadd 19)))) (znd pc 20 (znd pc 19 (zlf pc 19 (o_istore 1 20)) (zlf pc 20 (o_iinc 2 1 23))) (znd pc 23 (zlf pc 23 (o_goto 4)) (znd pc 26 (zlf pc 26 (o_iload 1 27)) (zlf pc 27 (o_iret))))))
/-- RepairShop$Shop.endOf(I[I)I -/
def zc_159 (pc : Nat) : zOp := znd pc 17 (znd pc 9 (znd pc 4 (znd pc 0 (zlf pc 0 (o_aload 0 1)) (znd pc 1 (zlf pc 1 (o_getf 4 4 4)) (zlf pc 4 (o_iload 1 5)))) (znd pc 5 (zlf pc 5 (o_iald 6)) (znd pc 6 (zlf pc 6 (o_ifne 11 9)) (zlf pc 9 (o_const 0 10))))) (znd pc 12 (znd pc 10 (zlf pc 10 (o_iret)) (znd pc 11 (zlf pc 11 (o_iload 1 12)) (zlf pc 12 (o_aload 0 13)))) (znd pc 13 (zlf pc 13 (o_getf 4 4 16)) (znd pc 16 (zlf pc 16 (o_iload 1 17)) (zlf pc 17 (o_iald 18)))))) (znd pc 25 (znd pc 20 (znd pc 18 (zlf pc 18 (o_const 1 19)) (znd pc 19 (zlf pc 19 (o_isub 20)) (zlf pc 20 (o_call 35 2 2 1 23)))) (znd pc 23 (zlf pc 23 (o_istore 3 24)) (znd pc 24 (zlf pc 24 (o_aload 2 25)) (zlf pc 25 (o_iload 3 26))))) (znd pc 28 (znd pc 26 (zlf pc 26 (o_iald 27)) (znd pc 27 (zlf pc 27 (o_aload 0 28)) (zlf pc 28 (o_getf 4 6 31)))) (znd pc 32 (znd pc 31 (zlf pc 31 (o_iload 3 32)) (zlf pc 32 (o_iald 33))) (znd pc 33 (zlf pc 33 (o_iadd 34)) (zlf pc 34 (o_iret))))))
/-- RepairShop$Shop.latenessOfJob(I[I)I -/
def zc_160 (pc : Nat) : zOp := znd pc 7 (znd pc 2 (znd pc 0 (zlf pc 0 (o_const 0 1)) (znd pc 1 (zlf pc 1 (o_aload 0 2)) (zlf pc 2 (o_iload 1 3)))) (znd pc 3 (zlf pc 3 (o_aload 2 4)) (znd pc 4 (zlf pc 4 (o_callv 4 159 3 4 1 7)) (zlf pc 7 (o_aload 0 8))))) (znd pc 12 (znd pc 8 (zlf pc 8 (o_getf 4 3 11)) (znd pc 11 (zlf pc 11 (o_iload 1 12)) (zlf pc 12 (o_iald 13)))) (znd pc 13 (zlf pc 13 (o_isub 14)) (znd pc 14 (zlf pc 14 (o_max 17)) (zlf pc 17 (o_iret)))))
/-- RepairShop$Shop.latenessOf([I)I -/
def zc_161 (pc : Nat) : zOp := znd pc 17 (znd pc 5 (znd pc 2 (znd pc 0 (zlf pc 0 (o_const 0 1)) (znd pc 1 (zlf pc 1 (o_istore 2 2)) (zlf pc 2 (o_const 0 3)))) (znd pc 3 (zlf pc 3 (o_istore 3 4)) (znd pc 4 (zlf pc 4 (o_iload 3 5)) (zlf pc 5 (o_aload 0 6))))) (znd pc 12 (znd pc 6 (zlf pc 6 (o_getf 4 1 9)) (znd pc 9 (zlf pc 9 (o_cge 34 12)) (zlf pc 12 (o_iload 2 13)))) (znd pc 13 (zlf pc 13 (o_aload 0 14)) (znd pc 14 (zlf pc 14 (o_getf 4 2 17)) (zlf pc 17 (o_iload 3 18)))))) (znd pc 25 (znd pc 20 (znd pc 18 (zlf pc 18 (o_iald 19)) (znd pc 19 (zlf pc 19 (o_aload 0 20)) (zlf pc 20 (o_iload 3 21)))) (znd pc 21 (zlf pc 21 (o_aload 1 22)) (znd pc 22 (zlf pc 22 (o_callv 4 160 3 3 1 25)) (zlf pc 25 (o_imul 26))))) (znd pc 28 (znd pc 26 (zlf pc 26 (o_iadd 27)) (znd pc 27 (zlf pc 27 (o_istore 2 28)) (zlf pc 28 (o_iinc 3 1 31)))) (znd pc 31 (zlf pc 31 (o_goto 4)) (znd pc 34 (zlf pc 34 (o_iload 2 35)) (zlf pc 35 (o_iret))))))
/-- RepairShop$Shop.greatestEnd()I -/
def zc_162 (pc : Nat) : zOp := znd pc 13 (znd pc 4 (znd pc 1 (znd pc 0 (zlf pc 0 (o_const 0 1)) (zlf pc 1 (o_istore 1 2))) (znd pc 2 (zlf pc 2 (o_const 0 3)) (znd pc 3 (zlf pc 3 (o_istore 2 4)) (zlf pc 4 (o_iload 2 5))))) (znd pc 6 (znd pc 5 (zlf pc 5 (o_aload 0 6)) (zlf pc 6 (o_getf 4 1 9))) (znd pc 9 (zlf pc 9 (o_cge 32 12)) (znd pc 12 (zlf pc 12 (o_iload 1 13)) (zlf pc 13 (o_aload 0 14)))))) (znd pc 22 (znd pc 15 (znd pc 14 (zlf pc 14 (o_iload 2 15)) (zlf pc 15 (o_aload 0 16))) (znd pc 16 (zlf pc 16 (o_getf 4 13 19)) (znd pc 19 (zlf pc 19 (o_callv 4 159 3 4 1 22)) (zlf pc 22 (o_max 25))))) (znd pc 26 (znd pc 25 (zlf pc 25 (o_istore 1 26)) (zlf pc 26 (o_iinc 2 1 29))) (znd pc 29 (zlf pc 29 (o_goto 4)) (znd pc 32 (zlf pc 32 (o_iload 1 33)) (zlf pc 33 (o_iret))))))
/-- RepairShop$Shop.startWithoutHit(II)I -/
def zc_163 (pc : Nat) : zOp := znd pc 34 (znd pc 15 (znd pc 5 (znd pc 1 (znd pc 0 (zlf pc 0 (o_iload 2 1)) (zlf pc 1 (o_istore 3 2))) (znd pc 2 (zlf pc 2 (o_const 0 3)) (znd pc 3 (zlf pc 3 (o_istore 4 5)) (zlf pc 5 (o_iload 4 7))))) (znd pc 8 (znd pc 7 (zlf pc 7 (o_aload 0 8)) (zlf pc 8 (o_getf 4 7 11))) (znd pc 11 (zlf pc 11 (o_cge 76 14)) (znd pc 14 (zlf pc 14 (o_iload 3 15)) (zlf pc 15 (o_istore 5 17)))))) (znd pc 23 (znd pc 18 (znd pc 17 (zlf pc 17 (o_const 0 18)) (zlf pc 18 (o_istore 6 20))) (znd pc 20 (zlf pc 20 (o_iload 6 22)) (znd pc 22 (zlf pc 22 (o_aload 0 23)) (zlf pc 23 (o_getf 4 7 26))))) (znd pc 30 (znd pc 26 (zlf pc 26 (o_cge 62 29)) (znd pc 29 (zlf pc 29 (o_aload 0 30)) (zlf pc 30 (o_iload 1 31)))) (znd pc 31 (zlf pc 31 (o_iload 3 32)) (znd pc 32 (zlf pc 32 (o_iload 6 34)) (zlf pc 34 (o_callv 4 165 4 4 1 37))))))) (znd pc 55 (znd pc 46 (znd pc 40 (znd pc 37 (zlf pc 37 (o_ifeq 56 40)) (zlf pc 40 (o_aload 0 41))) (znd pc 41 (zlf pc 41 (o_getf 4 9 44)) (znd pc 44 (zlf pc 44 (o_iload 6 46)) (zlf pc 46 (o_iald 47))))) (znd pc 51 (znd pc 47 (zlf pc 47 (o_aload 0 48)) (znd pc 48 (zlf pc 48 (o_getf 4 10 51)) (zlf pc 51 (o_iload 6 53)))) (znd pc 53 (zlf pc 53 (o_iald 54)) (znd pc 54 (zlf pc 54 (o_iadd 55)) (zlf pc 55 (o_istore 3 56)))))) (znd pc 65 (znd pc 59 (znd pc 56 (zlf pc 56 (o_iinc 6 1 59)) (zlf pc 59 (o_goto 20))) (znd pc 62 (zlf pc 62 (o_iload 3 63)) (znd pc 63 (zlf pc 63 (o_iload 5 65)) (zlf pc 65 (o_cne 70 68))))) (znd pc 70 (znd pc 68 (zlf pc 68 (o_iload 3 69)) (znd pc 69 (zlf pc 69 (o_iret)) (zlf pc 70 (o_iinc 4 1 73)))) (znd pc 73 (zlf pc 73 (o_goto 5)) (znd pc 76 (zlf pc 76 (o_iload 3 77)) (zlf pc 77 (o_iret)))))))
/-- RepairShop$Shop.hits(II)Z -/
def zc_164 (pc : Nat) : zOp := znd pc 12 (znd pc 3 (znd pc 1 (znd pc 0 (zlf pc 0 (o_const 0 1)) (zlf pc 1 (o_istore 3 2))) (znd pc 2 (zlf pc 2 (o_iload 3 3)) (zlf pc 3 (o_aload 0 4)))) (znd pc 7 (znd pc 4 (zlf pc 4 (o_getf 4 7 7)) (zlf pc 7 (o_cge 28 10))) (znd pc 10 (zlf pc 10 (o_aload 0 11)) (znd pc 11 (zlf pc 11 (o_iload 1 12)) (zlf pc 12 (o_iload 2 13)))))) (znd pc 20 (znd pc 14 (znd pc 13 (zlf pc 13 (o_iload 3 14)) (zlf pc 14 (o_callv 4 165 4 4 1 17))) (znd pc 17 (zlf pc 17 (o_ifeq 22 20)) (zlf pc 20 (o_const 1 21)))) (znd pc 22 (znd pc 21 (zlf pc 21 (o_zret)) (zlf pc 22 (o_iinc 3 1 25))) (znd pc 25 (zlf pc 25 (o_goto 2)) (znd pc 28 (zlf pc 28 (o_const 0 29)) (zlf pc 29 (o_zret))))))
/-- RepairShop$Shop.hitsOne(III)Z -/
def zc_165 (pc : Nat) : zOp := znd pc 26 (znd pc 11 (znd pc 5 (znd pc 1 (znd pc 0 (zlf pc 0 (o_aload 0 1)) (zlf pc 1 (o_getf 4 8 4))) (znd pc 4 (zlf pc 4 (o_iload 3 5)) (zlf pc 5 (o_iald 6)))) (znd pc 7 (znd pc 6 (zlf pc 6 (o_aload 0 7)) (zlf pc 7 (o_getf 4 5 10))) (znd pc 10 (zlf pc 10 (o_iload 1 11)) (zlf pc 11 (o_iald 12))))) (znd pc 17 (znd pc 15 (znd pc 12 (zlf pc 12 (o_cne 53 15)) (zlf pc 15 (o_iload 2 16))) (znd pc 16 (zlf pc 16 (o_aload 0 17)) (zlf pc 17 (o_getf 4 9 20)))) (znd pc 21 (znd pc 20 (zlf pc 20 (o_iload 3 21)) (zlf pc 21 (o_iald 22))) (znd pc 22 (zlf pc 22 (o_aload 0 23)) (znd pc 23 (zlf pc 23 (o_getf 4 10 26)) (zlf pc 26 (o_iload 3 27))))))) (znd pc 39 (znd pc 32 (znd pc 28 (znd pc 27 (zlf pc 27 (o_iald 28)) (zlf pc 28 (o_iadd 29))) (znd pc 29 (zlf pc 29 (o_cge 53 32)) (zlf pc 32 (o_iload 2 33)))) (znd pc 34 (znd pc 33 (zlf pc 33 (o_aload 0 34)) (zlf pc 34 (o_getf 4 6 37))) (znd pc 37 (zlf pc 37 (o_iload 1 38)) (znd pc 38 (zlf pc 38 (o_iald 39)) (zlf pc 39 (o_iadd 40)))))) (znd pc 45 (znd pc 41 (znd pc 40 (zlf pc 40 (o_aload 0 41)) (zlf pc 41 (o_getf 4 9 44))) (znd pc 44 (zlf pc 44 (o_iload 3 45)) (zlf pc 45 (o_iald 46)))) (znd pc 49 (znd pc 46 (zlf pc 46 (o_cle 53 49)) (zlf pc 49 (o_const 1 50))) (znd pc 50 (zlf pc 50 (o_goto 54)) (znd pc 53 (zlf pc 53 (o_const 0 54)) (zlf pc 54 (o_zret)))))))
/-- RepairShop$Shop.countHits()I -/
def zc_166 (pc : Nat) : zOp := znd pc 24 (znd pc 9 (znd pc 3 (znd pc 1 (znd pc 0 (zlf pc 0 (o_const 0 1)) (zlf pc 1 (o_istore 1 2))) (znd pc 2 (zlf pc 2 (o_const 0 3)) (zlf pc 3 (o_istore 2 4)))) (znd pc 5 (znd pc 4 (zlf pc 4 (o_iload 2 5)) (zlf pc 5 (o_aload 0 6))) (znd pc 6 (zlf pc 6 (o_getf 4 1 9)) (zlf pc 9 (o_cge 62 12))))) (znd pc 15 (znd pc 13 (znd pc 12 (zlf pc 12 (o_const 0 13)) (zlf pc 13 (o_istore 3 14))) (znd pc 14 (zlf pc 14 (o_iload 3 15)) (zlf pc 15 (o_aload 0 16)))) (znd pc 19 (znd pc 16 (zlf pc 16 (o_getf 4 4 19)) (zlf pc 19 (o_iload 2 20))) (znd pc 20 (zlf pc 20 (o_iald 21)) (znd pc 21 (zlf pc 21 (o_cge 56 24)) (zlf pc 24 (o_iload 2 25))))))) (znd pc 40 (znd pc 31 (znd pc 26 (znd pc 25 (zlf pc 25 (o_iload 3 26)) (zlf pc 26 (o_call 35 2 2 1 29))) (znd pc 29 (zlf pc 29 (o_istore 4 31)) (zlf pc 31 (o_aload 0 32)))) (znd pc 34 (znd pc 32 (zlf pc 32 (o_iload 4 34)) (zlf pc 34 (o_aload 0 35))) (znd pc 35 (zlf pc 35 (o_getf 4 13 38)) (znd pc 38 (zlf pc 38 (o_iload 4 40)) (zlf pc 40 (o_iald 41)))))) (znd pc 50 (znd pc 44 (znd pc 41 (zlf pc 41 (o_callv 4 164 3 4 1 44)) (zlf pc 44 (o_ifeq 50 47))) (znd pc 47 (zlf pc 47 (o_iinc 1 1 50)) (zlf pc 50 (o_iinc 3 1 53)))) (znd pc 56 (znd pc 53 (zlf pc 53 (o_goto 14)) (zlf pc 56 (o_iinc 2 1 59))) (znd pc 59 (zlf pc 59 (o_goto 4)) (znd pc 62 (zlf pc 62 (o_iload 1 63)) (zlf pc 63 (o_iret)))))))
/-- RepairShop$Shop.meetingTime()I -/
def zc_167 (pc : Nat) : zOp := znd pc 32 (znd pc 14 (znd pc 4 (znd pc 1 (znd pc 0 (zlf pc 0 (o_const 0 1)) (zlf pc 1 (o_istore 1 2))) (znd pc 2 (zlf pc 2 (o_const 0 3)) (znd pc 3 (zlf pc 3 (o_istore 2 4)) (zlf pc 4 (o_iload 2 5))))) (znd pc 9 (znd pc 5 (zlf pc 5 (o_aload 0 6)) (znd pc 6 (zlf pc 6 (o_getf 4 1 9)) (zlf pc 9 (o_cge 74 12)))) (znd pc 12 (zlf pc 12 (o_const 0 13)) (znd pc 13 (zlf pc 13 (o_istore 3 14)) (zlf pc 14 (o_iload 3 15)))))) (znd pc 21 (znd pc 16 (znd pc 15 (zlf pc 15 (o_aload 0 16)) (zlf pc 16 (o_getf 4 4 19))) (znd pc 19 (zlf pc 19 (o_iload 2 20)) (znd pc 20 (zlf pc 20 (o_iald 21)) (zlf pc 21 (o_cge 68 24))))) (znd pc 26 (znd pc 24 (zlf pc 24 (o_iload 2 25)) (znd pc 25 (zlf pc 25 (o_iload 3 26)) (zlf pc 26 (o_call 35 2 2 1 29)))) (znd pc 29 (zlf pc 29 (o_istore 4 31)) (znd pc 31 (zlf pc 31 (o_aload 0 32)) (zlf pc 32 (o_getf 4 12 35))))))) (znd pc 53 (znd pc 42 (znd pc 37 (znd pc 35 (zlf pc 35 (o_iload 4 37)) (zlf pc 37 (o_iald 38))) (znd pc 38 (zlf pc 38 (o_aload 0 39)) (znd pc 39 (zlf pc 39 (o_getf 4 13 42)) (zlf pc 42 (o_iload 4 44))))) (znd pc 48 (znd pc 44 (zlf pc 44 (o_iald 45)) (znd pc 45 (zlf pc 45 (o_ceq 62 48)) (zlf pc 48 (o_iload 1 49)))) (znd pc 49 (zlf pc 49 (o_aload 0 50)) (znd pc 50 (zlf pc 50 (o_getf 4 12 53)) (zlf pc 53 (o_iload 4 55)))))) (znd pc 61 (znd pc 56 (znd pc 55 (zlf pc 55 (o_iald 56)) (zlf pc 56 (o_const 1 57))) (znd pc 57 (zlf pc 57 (o_iadd 58)) (znd pc 58 (zlf pc 58 (o_max 61)) (zlf pc 61 (o_istore 1 62))))) (znd pc 68 (znd pc 62 (zlf pc 62 (o_iinc 3 1 65)) (znd pc 65 (zlf pc 65 (o_goto 14)) (zlf pc 68 (o_iinc 2 1 71)))) (znd pc 71 (zlf pc 71 (o_goto 4)) (znd pc 74 (zlf pc 74 (o_iload 1 75)) (zlf pc 75 (o_iret)))))))
/-- RepairShop$Shop.acceptPresent()I -/
def zc_168 (pc : Nat) : zOp := znd pc 32 (znd pc 14 (znd pc 4 (znd pc 1 (znd pc 0 (zlf pc 0 (o_const 0 1)) (zlf pc 1 (o_istore 1 2))) (znd pc 2 (zlf pc 2 (o_const 0 3)) (znd pc 3 (zlf pc 3 (o_istore 2 4)) (zlf pc 4 (o_iload 2 5))))) (znd pc 9 (znd pc 5 (zlf pc 5 (o_aload 0 6)) (znd pc 6 (zlf pc 6 (o_getf 4 1 9)) (zlf pc 9 (o_cge 77 12)))) (znd pc 12 (zlf pc 12 (o_const 0 13)) (znd pc 13 (zlf pc 13 (o_istore 3 14)) (zlf pc 14 (o_iload 3 15)))))) (znd pc 21 (znd pc 16 (znd pc 15 (zlf pc 15 (o_aload 0 16)) (zlf pc 16 (o_getf 4 4 19))) (znd pc 19 (zlf pc 19 (o_iload 2 20)) (znd pc 20 (zlf pc 20 (o_iald 21)) (zlf pc 21 (o_cge 71 24))))) (znd pc 26 (znd pc 24 (zlf pc 24 (o_iload 2 25)) (znd pc 25 (zlf pc 25 (o_iload 3 26)) (zlf pc 26 (o_call 35 2 2 1 29)))) (znd pc 29 (zlf pc 29 (o_istore 4 31)) (znd pc 31 (zlf pc 31 (o_aload 0 32)) (zlf pc 32 (o_getf 4 12 35))))))) (znd pc 54 (znd pc 42 (znd pc 37 (znd pc 35 (zlf pc 35 (o_iload 4 37)) (zlf pc 37 (o_iald 38))) (znd pc 38 (zlf pc 38 (o_aload 0 39)) (znd pc 39 (zlf pc 39 (o_getf 4 13 42)) (zlf pc 42 (o_iload 4 44))))) (znd pc 48 (znd pc 44 (zlf pc 44 (o_iald 45)) (znd pc 45 (zlf pc 45 (o_ceq 65 48)) (zlf pc 48 (o_aload 0 49)))) (znd pc 49 (zlf pc 49 (o_getf 4 12 52)) (znd pc 52 (zlf pc 52 (o_iload 4 54)) (zlf pc 54 (o_aload 0 55)))))) (znd pc 62 (znd pc 58 (znd pc 55 (zlf pc 55 (o_getf 4 13 58)) (zlf pc 58 (o_iload 4 60))) (znd pc 60 (zlf pc 60 (o_iald 61)) (znd pc 61 (zlf pc 61 (o_iast 62)) (zlf pc 62 (o_iinc 1 1 65))))) (znd pc 71 (znd pc 65 (zlf pc 65 (o_iinc 3 1 68)) (znd pc 68 (zlf pc 68 (o_goto 14)) (zlf pc 71 (o_iinc 2 1 74)))) (znd pc 74 (zlf pc 74 (o_goto 4)) (znd pc 77 (zlf pc 77 (o_iload 1 78)) (zlf pc 78 (o_iret)))))))
/-- RepairShop$Shop.codeAt(II)I -/
def zc_169 (pc : Nat) : zOp := znd pc 38 (znd pc 16 (znd pc 4 (znd pc 1 (znd pc 0 (zlf pc 0 (o_const 0 1)) (zlf pc 1 (o_istore 3 2))) (znd pc 2 (zlf pc 2 (o_iload 3 3)) (znd pc 3 (zlf pc 3 (o_aload 0 4)) (zlf pc 4 (o_getf 4 1 7))))) (znd pc 11 (znd pc 7 (zlf pc 7 (o_cge 79 10)) (znd pc 10 (zlf pc 10 (o_const 0 11)) (zlf pc 11 (o_istore 4 13)))) (znd pc 13 (zlf pc 13 (o_iload 4 15)) (znd pc 15 (zlf pc 15 (o_aload 0 16)) (zlf pc 16 (o_getf 4 4 19)))))) (znd pc 25 (znd pc 20 (znd pc 19 (zlf pc 19 (o_iload 3 20)) (zlf pc 20 (o_iald 21))) (znd pc 21 (zlf pc 21 (o_cge 73 24)) (znd pc 24 (zlf pc 24 (o_iload 3 25)) (zlf pc 25 (o_iload 4 27))))) (znd pc 32 (znd pc 27 (zlf pc 27 (o_call 35 2 2 1 30)) (znd pc 30 (zlf pc 30 (o_istore 5 32)) (zlf pc 32 (o_aload 0 33)))) (znd pc 33 (zlf pc 33 (o_getf 4 5 36)) (znd pc 36 (zlf pc 36 (o_iload 5 38)) (zlf pc 38 (o_iald 39))))))) (znd pc 56 (znd pc 45 (znd pc 40 (znd pc 39 (zlf pc 39 (o_iload 1 40)) (zlf pc 40 (o_cne 67 43))) (znd pc 43 (zlf pc 43 (o_aload 0 44)) (znd pc 44 (zlf pc 44 (o_iload 1 45)) (zlf pc 45 (o_aload 0 46))))) (znd pc 51 (znd pc 46 (zlf pc 46 (o_getf 4 13 49)) (znd pc 49 (zlf pc 49 (o_iload 5 51)) (zlf pc 51 (o_iald 52)))) (znd pc 52 (zlf pc 52 (o_callv 4 170 3 7 1 55)) (znd pc 55 (zlf pc 55 (o_iload 2 56)) (zlf pc 56 (o_cne 67 59)))))) (znd pc 66 (znd pc 62 (znd pc 59 (zlf pc 59 (o_const 10 61)) (znd pc 61 (zlf pc 61 (o_iload 3 62)) (zlf pc 62 (o_imul 63)))) (znd pc 63 (zlf pc 63 (o_iload 4 65)) (znd pc 65 (zlf pc 65 (o_iadd 66)) (zlf pc 66 (o_iret))))) (znd pc 73 (znd pc 67 (zlf pc 67 (o_iinc 4 1 70)) (znd pc 70 (zlf pc 70 (o_goto 13)) (zlf pc 73 (o_iinc 3 1 76)))) (znd pc 76 (zlf pc 76 (o_goto 2)) (znd pc 79 (zlf pc 79 (o_const (-1) 80)) (zlf pc 80 (o_iret)))))))
/-- RepairShop$Shop.countBefore(II)I -/
def zc_170 (pc : Nat) : zOp := znd pc 33 (znd pc 14 (znd pc 3 (znd pc 1 (znd pc 0 (zlf pc 0 (o_const 0 1)) (zlf pc 1 (o_istore 3 2))) (znd pc 2 (zlf pc 2 (o_const 0 3)) (zlf pc 3 (o_istore 4 5)))) (znd pc 7 (znd pc 5 (zlf pc 5 (o_iload 4 7)) (zlf pc 7 (o_aload 0 8))) (znd pc 8 (zlf pc 8 (o_getf 4 1 11)) (znd pc 11 (zlf pc 11 (o_cge 75 14)) (zlf pc 14 (o_const 0 15)))))) (znd pc 23 (znd pc 17 (znd pc 15 (zlf pc 15 (o_istore 5 17)) (zlf pc 17 (o_iload 5 19))) (znd pc 19 (zlf pc 19 (o_aload 0 20)) (znd pc 20 (zlf pc 20 (o_getf 4 4 23)) (zlf pc 23 (o_iload 4 25))))) (znd pc 26 (znd pc 25 (zlf pc 25 (o_iald 26)) (zlf pc 26 (o_cge 69 29))) (znd pc 29 (zlf pc 29 (o_iload 4 31)) (znd pc 31 (zlf pc 31 (o_iload 5 33)) (zlf pc 33 (o_call 35 2 2 1 36))))))) (znd pc 53 (znd pc 44 (znd pc 38 (znd pc 36 (zlf pc 36 (o_istore 6 38)) (zlf pc 38 (o_aload 0 39))) (znd pc 39 (zlf pc 39 (o_getf 4 5 42)) (znd pc 42 (zlf pc 42 (o_iload 6 44)) (zlf pc 44 (o_iald 45))))) (znd pc 46 (znd pc 45 (zlf pc 45 (o_iload 1 46)) (zlf pc 46 (o_cne 63 49))) (znd pc 49 (zlf pc 49 (o_aload 0 50)) (znd pc 50 (zlf pc 50 (o_getf 4 13 53)) (zlf pc 53 (o_iload 6 55)))))) (znd pc 63 (znd pc 56 (znd pc 55 (zlf pc 55 (o_iald 56)) (zlf pc 56 (o_iload 2 57))) (znd pc 57 (zlf pc 57 (o_cge 63 60)) (znd pc 60 (zlf pc 60 (o_iinc 3 1 63)) (zlf pc 63 (o_iinc 5 1 66))))) (znd pc 69 (znd pc 66 (zlf pc 66 (o_goto 17)) (zlf pc 69 (o_iinc 4 1 72))) (znd pc 72 (zlf pc 72 (o_goto 5)) (znd pc 75 (zlf pc 75 (o_iload 3 76)) (zlf pc 76 (o_iret)))))))
def zcode (m pc : Nat) : zOp := znd m 84 (znd m 41 (znd m 20 (znd m 9 (znd m 4 (znd m 1 (znd m 0 (zlf m 0 (zc_0 pc)) (zlf m 1 (zc_1 pc))) (znd m 2 (zlf m 2 (zc_2 pc)) (znd m 3 (zlf m 3 (zc_3 pc)) (zlf m 4 (zc_4 pc))))) (znd m 6 (znd m 5 (zlf m 5 (zc_5 pc)) (zlf m 6 (zc_6 pc))) (znd m 7 (zlf m 7 (zc_7 pc)) (znd m 8 (zlf m 8 (zc_8 pc)) (zlf m 9 (zc_9 pc)))))) (znd m 14 (znd m 11 (znd m 10 (zlf m 10 (zc_10 pc)) (zlf m 11 (zc_11 pc))) (znd m 12 (zlf m 12 (zc_12 pc)) (znd m 13 (zlf m 13 (zc_13 pc)) (zlf m 14 (zc_14 pc))))) (znd m 17 (znd m 15 (zlf m 15 (zc_15 pc)) (znd m 16 (zlf m 16 (zc_16 pc)) (zlf m 17 (zc_17 pc)))) (znd m 18 (zlf m 18 (zc_18 pc)) (znd m 19 (zlf m 19 (zc_19 pc)) (zlf m 20 (zc_20 pc))))))) (znd m 30 (znd m 25 (znd m 22 (znd m 21 (zlf m 21 (zc_21 pc)) (zlf m 22 (zc_22 pc))) (znd m 23 (zlf m 23 (zc_23 pc)) (znd m 24 (zlf m 24 (zc_24 pc)) (zlf m 25 (zc_25 pc))))) (znd m 27 (znd m 26 (zlf m 26 (zc_26 pc)) (zlf m 27 (zc_27 pc))) (znd m 28 (zlf m 28 (zc_28 pc)) (znd m 29 (zlf m 29 (zc_29 pc)) (zlf m 30 (zc_30 pc)))))) (znd m 35 (znd m 32 (znd m 31 (zlf m 31 (zc_31 pc)) (zlf m 32 (zc_32 pc))) (znd m 33 (zlf m 33 (zc_33 pc)) (znd m 34 (zlf m 34 (zc_34 pc)) (zlf m 35 (zc_35 pc))))) (znd m 38 (znd m 36 (zlf m 36 (zc_36 pc)) (znd m 37 (zlf m 37 (zc_37 pc)) (zlf m 38 (zc_38 pc)))) (znd m 39 (zlf m 39 (zc_39 pc)) (znd m 40 (zlf m 40 (zc_40 pc)) (zlf m 41 (zc_41 pc)))))))) (znd m 62 (znd m 51 (znd m 46 (znd m 43 (znd m 42 (zlf m 42 (zc_42 pc)) (zlf m 43 (zc_43 pc))) (znd m 44 (zlf m 44 (zc_44 pc)) (znd m 45 (zlf m 45 (zc_45 pc)) (zlf m 46 (zc_46 pc))))) (znd m 48 (znd m 47 (zlf m 47 (zc_47 pc)) (zlf m 48 (zc_48 pc))) (znd m 49 (zlf m 49 (zc_49 pc)) (znd m 50 (zlf m 50 (zc_50 pc)) (zlf m 51 (zc_51 pc)))))) (znd m 56 (znd m 53 (znd m 52 (zlf m 52 (zc_52 pc)) (zlf m 53 (zc_53 pc))) (znd m 54 (zlf m 54 (zc_54 pc)) (znd m 55 (zlf m 55 (zc_55 pc)) (zlf m 56 (zc_56 pc))))) (znd m 59 (znd m 57 (zlf m 57 (zc_57 pc)) (znd m 58 (zlf m 58 (zc_58 pc)) (zlf m 59 (zc_59 pc)))) (znd m 60 (zlf m 60 (zc_60 pc)) (znd m 61 (zlf m 61 (zc_61 pc)) (zlf m 62 (zc_62 pc))))))) (znd m 73 (znd m 67 (znd m 64 (znd m 63 (zlf m 63 (zc_63 pc)) (zlf m 64 (zc_64 pc))) (znd m 65 (zlf m 65 (zc_65 pc)) (znd m 66 (zlf m 66 (zc_66 pc)) (zlf m 67 (zc_67 pc))))) (znd m 70 (znd m 68 (zlf m 68 (zc_68 pc)) (znd m 69 (zlf m 69 (zc_69 pc)) (zlf m 70 (zc_70 pc)))) (znd m 71 (zlf m 71 (zc_71 pc)) (znd m 72 (zlf m 72 (zc_72 pc)) (zlf m 73 (zc_73 pc)))))) (znd m 78 (znd m 75 (znd m 74 (zlf m 74 (zc_74 pc)) (zlf m 75 (zc_75 pc))) (znd m 76 (zlf m 76 (zc_76 pc)) (znd m 77 (zlf m 77 (zc_77 pc)) (zlf m 78 (zc_78 pc))))) (znd m 81 (znd m 79 (zlf m 79 (zc_79 pc)) (znd m 80 (zlf m 80 (zc_80 pc)) (zlf m 81 (zc_81 pc)))) (znd m 82 (zlf m 82 (zc_82 pc)) (znd m 83 (zlf m 83 (zc_83 pc)) (zlf m 84 (zc_84 pc))))))))) (znd m 127 (znd m 105 (znd m 94 (znd m 89 (znd m 86 (znd m 85 (zlf m 85 (zc_85 pc)) (zlf m 86 (zc_86 pc))) (znd m 87 (zlf m 87 (zc_87 pc)) (znd m 88 (zlf m 88 (zc_88 pc)) (zlf m 89 (zc_89 pc))))) (znd m 91 (znd m 90 (zlf m 90 (zc_90 pc)) (zlf m 91 (zc_91 pc))) (znd m 92 (zlf m 92 (zc_92 pc)) (znd m 93 (zlf m 93 (zc_93 pc)) (zlf m 94 (zc_94 pc)))))) (znd m 99 (znd m 96 (znd m 95 (zlf m 95 (zc_95 pc)) (zlf m 96 (zc_96 pc))) (znd m 97 (zlf m 97 (zc_97 pc)) (znd m 98 (zlf m 98 (zc_98 pc)) (zlf m 99 (zc_99 pc))))) (znd m 102 (znd m 100 (zlf m 100 (zc_100 pc)) (znd m 101 (zlf m 101 (zc_101 pc)) (zlf m 102 (zc_102 pc)))) (znd m 103 (zlf m 103 (zc_103 pc)) (znd m 104 (zlf m 104 (zc_104 pc)) (zlf m 105 (zc_105 pc))))))) (znd m 116 (znd m 110 (znd m 107 (znd m 106 (zlf m 106 (zc_106 pc)) (zlf m 107 (zc_107 pc))) (znd m 108 (zlf m 108 (zc_108 pc)) (znd m 109 (zlf m 109 (zc_109 pc)) (zlf m 110 (zc_110 pc))))) (znd m 113 (znd m 111 (zlf m 111 (zc_111 pc)) (znd m 112 (zlf m 112 (zc_112 pc)) (zlf m 113 (zc_113 pc)))) (znd m 114 (zlf m 114 (zc_114 pc)) (znd m 115 (zlf m 115 (zc_115 pc)) (zlf m 116 (zc_116 pc)))))) (znd m 121 (znd m 118 (znd m 117 (zlf m 117 (zc_117 pc)) (zlf m 118 (zc_118 pc))) (znd m 119 (zlf m 119 (zc_119 pc)) (znd m 120 (zlf m 120 (zc_120 pc)) (zlf m 121 (zc_121 pc))))) (znd m 124 (znd m 122 (zlf m 122 (zc_122 pc)) (znd m 123 (zlf m 123 (zc_123 pc)) (zlf m 124 (zc_124 pc)))) (znd m 125 (zlf m 125 (zc_125 pc)) (znd m 126 (zlf m 126 (zc_126 pc)) (zlf m 127 (zc_127 pc)))))))) (znd m 148 (znd m 137 (znd m 132 (znd m 129 (znd m 128 (zlf m 128 (zc_128 pc)) (zlf m 129 (zc_129 pc))) (znd m 130 (zlf m 130 (zc_130 pc)) (znd m 131 (zlf m 131 (zc_131 pc)) (zlf m 132 (zc_132 pc))))) (znd m 134 (znd m 133 (zlf m 133 (zc_133 pc)) (zlf m 134 (zc_134 pc))) (znd m 135 (zlf m 135 (zc_135 pc)) (znd m 136 (zlf m 136 (zc_136 pc)) (zlf m 137 (zc_137 pc)))))) (znd m 142 (znd m 139 (znd m 138 (zlf m 138 (zc_138 pc)) (zlf m 139 (zc_139 pc))) (znd m 140 (zlf m 140 (zc_140 pc)) (znd m 141 (zlf m 141 (zc_141 pc)) (zlf m 142 (zc_142 pc))))) (znd m 145 (znd m 143 (zlf m 143 (zc_143 pc)) (znd m 144 (zlf m 144 (zc_144 pc)) (zlf m 145 (zc_145 pc)))) (znd m 146 (zlf m 146 (zc_146 pc)) (znd m 147 (zlf m 147 (zc_147 pc)) (zlf m 148 (zc_148 pc))))))) (znd m 159 (znd m 153 (znd m 150 (znd m 149 (zlf m 149 (zc_149 pc)) (zlf m 150 (zc_150 pc))) (znd m 151 (zlf m 151 (zc_151 pc)) (znd m 152 (zlf m 152 (zc_152 pc)) (zlf m 153 (zc_153 pc))))) (znd m 156 (znd m 154 (zlf m 154 (zc_154 pc)) (znd m 155 (zlf m 155 (zc_155 pc)) (zlf m 156 (zc_156 pc)))) (znd m 157 (zlf m 157 (zc_157 pc)) (znd m 158 (zlf m 158 (zc_158 pc)) (zlf m 159 (zc_159 pc)))))) (znd m 164 (znd m 161 (znd m 160 (zlf m 160 (zc_160 pc)) (zlf m 161 (zc_161 pc))) (znd m 162 (zlf m 162 (zc_162 pc)) (znd m 163 (zlf m 163 (zc_163 pc)) (zlf m 164 (zc_164 pc))))) (znd m 167 (znd m 165 (zlf m 165 (zc_165 pc)) (znd m 166 (zlf m 166 (zc_166 pc)) (zlf m 167 (zc_167 pc)))) (znd m 168 (zlf m 168 (zc_168 pc)) (znd m 169 (zlf m 169 (zc_169 pc)) (zlf m 170 (zc_170 pc)))))))))
end
section
/-! ===== 04: runs of the small machine; what they come to, without a count of steps ===== -/
def zev (n m pc : Nat) (ls : zLc) (st : List zVal) (σ : zSt) : Option zOut := match n with
  | 0 => none
  | n + 1 => match zcode m pc ls st σ with
    | none => none
    | some (.inl (pc', ls', st', σ')) => zev n m pc' ls' st' σ'
    | some (.inr (.inl r)) => some (.inl r)
    | some (.inr (.inr (.inr e))) => some (.inr e)
    | some (.inr (.inr (.inl (m', as, nl, rk, (pc', ls', st', σ'))))) => match zev n m' 0 (zpad nl (zlay as)) [] σ' with
      | some (.inl (v, σ'')) => match zrk rk v with
        | some vs => zev n m pc' ls' (vs ++ st') σ''
        | none => none
      | _ => none
theorem zev_succ : ∀ (n m pc : Nat) (ls : zLc) (st : List zVal) (σ : zSt) (r : zOut), zev n m pc ls st σ = some r → zev (n + 1) m pc ls st σ = some r := by
  intro n
  induction n with
  | zero => intro m pc ls st σ r h; simp [zev] at h
  | succ n ih =>
    intro m pc ls st σ r h
    rw [zev] at h ⊢
    rcases hc : zcode m pc ls st σ with _ | (⟨pc', ls', st', σ'⟩ | r' | ⟨m', as, nl, rk, pc', ls', st', σ'⟩ | e)
    · rw [hc] at h; cases h
    · rw [hc] at h; exact ih _ _ _ _ _ _ h
    · rw [hc] at h; exact h
    · rw [hc] at h
      dsimp only at h ⊢
      rcases hr : zev n m' 0 (zpad nl (zlay as)) [] σ' with _ | (⟨v, σ''⟩ | e)
      · rw [hr] at h; cases h
      · rw [hr] at h
        rw [ih _ _ _ _ _ _ hr]
        dsimp only at h ⊢
        rcases hk : zrk rk v with _ | vs
        · rw [hk] at h; cases h
        · rw [hk] at h; exact ih _ _ _ _ _ _ h
      · rw [hr] at h; cases h
    · rw [hc] at h; exact h
theorem zev_le {n k m pc : Nat} {ls : zLc} {st : List zVal} {σ : zSt} {r : zOut} (h : zev n m pc ls st σ = some r) (hk : n ≤ k) : zev k m pc ls st σ = some r := by
  induction hk with
  | refl => exact h
  | step _ ih => exact zev_succ _ _ _ _ _ _ _ ih
/-- what a run comes to -/
noncomputable def zE (m pc : Nat) (ls : zLc) (st : List zVal) (σ : zSt) : Option zOut :=
  @dite _ (∃ n r, zev n m pc ls st σ = some r) (Classical.propDecidable _) (fun h => some (Classical.choose (Classical.choose_spec h))) (fun _ => none)
theorem zE_iff {m pc : Nat} {ls : zLc} {st : List zVal} {σ : zSt} {r : zOut} : zE m pc ls st σ = some r ↔ ∃ n, zev n m pc ls st σ = some r := by
  unfold zE
  constructor
  · intro h
    by_cases hx : ∃ n r, zev n m pc ls st σ = some r
    · rw [dif_pos hx] at h
      cases h
      exact ⟨_, Classical.choose_spec (Classical.choose_spec hx)⟩
    · rw [dif_neg hx] at h; cases h
  · rintro ⟨n, h⟩
    have hx : ∃ n r, zev n m pc ls st σ = some r := ⟨n, r, h⟩
    rw [dif_pos hx]
    have h2 := Classical.choose_spec (Classical.choose_spec hx)
    have h3 := zev_le h2 (Nat.le_max_left (Classical.choose hx) n)
    have h4 := zev_le h (Nat.le_max_right (Classical.choose hx) n)
    exact h3.symm.trans h4
theorem zopt_ext {α : Type} {a b : Option α} (h : ∀ r, a = some r ↔ b = some r) : a = b := by
  cases a with
  | none =>
    cases b with
    | none => rfl
    | some y => exact ((h y).mpr rfl)
  | some x => exact ((h x).mp rfl).symm
/-- a call's end, by its kind -/
def zbV (r : Option zOut) (F : zSt → Option zOut) : Option zOut := match r with
  | some (.inl (none, σ)) => F σ
  | _ => none
def zbI (r : Option zOut) (F : Int → zSt → Option zOut) : Option zOut := match r with
  | some (.inl (some (.inl x), σ)) => F x σ
  | _ => none
def zbL (r : Option zOut) (F : Int64 → zSt → Option zOut) : Option zOut := match r with
  | some (.inl (some (.inr (.inr x)), σ)) => F x σ
  | _ => none
noncomputable def zfin (m : Nat) (r : Option zStp) : Option zOut := match r with
  | none => none
  | some (.inl (pc', ls', st', σ')) => zE m pc' ls' st' σ'
  | some (.inr (.inl r)) => some (.inl r)
  | some (.inr (.inr (.inr e))) => some (.inr e)
  | some (.inr (.inr (.inl (m', as, nl, rk, (pc', ls', st', σ'))))) => match zE m' 0 (zpad nl (zlay as)) [] σ' with
    | some (.inl (v, σ'')) => match zrk rk v with
      | some vs => zE m pc' ls' (vs ++ st') σ''
      | none => none
    | _ => none
theorem zE_step (m pc : Nat) (ls : zLc) (st : List zVal) (σ : zSt) : zE m pc ls st σ = zfin m (zcode m pc ls st σ) := by
  have h0 : zE m pc ls st σ = zE m pc ls st σ := rfl
  apply zopt_ext
  intro r
  rw [zE_iff]
  have hs : (∃ n, zev n m pc ls st σ = some r) ↔ ∃ n, zev (n + 1) m pc ls st σ = some r := ⟨fun ⟨n, h⟩ => ⟨n, zev_succ _ _ _ _ _ _ _ h⟩, fun ⟨n, h⟩ => ⟨n + 1, h⟩⟩
  rw [hs]
  simp only [zev]
  rcases hc : zcode m pc ls st σ with _ | (⟨pc', ls', st', σ'⟩ | r' | ⟨m', as, nl, rk, pc', ls', st', σ'⟩ | e)
  · simp [zfin]
  · simp only [zfin]
    exact zE_iff.symm
  · simp [zfin]
  · simp only [zfin]
    constructor
    · rintro ⟨n, h⟩
      rcases hr : zev n m' 0 (zpad nl (zlay as)) [] σ' with _ | (⟨v, σ''⟩ | e)
      · rw [hr] at h; cases h
      · rw [hr] at h
        rw [zE_iff.mpr ⟨n, hr⟩]
        dsimp only at h ⊢
        rcases hk : zrk rk v with _ | vs
        · rw [hk] at h; cases h
        · rw [hk] at h
          exact zE_iff.mpr ⟨n, h⟩
      · rw [hr] at h; cases h
    · intro h
      rcases hr : zE m' 0 (zpad nl (zlay as)) [] σ' with _ | (⟨v, σ''⟩ | e)
      · rw [hr] at h; cases h
      · rw [hr] at h
        dsimp only at h
        rcases hk : zrk rk v with _ | vs
        · rw [hk] at h; cases h
        · rw [hk] at h
          obtain ⟨n1, h1⟩ := zE_iff.mp hr
          obtain ⟨n2, h2⟩ := zE_iff.mp h
          refine ⟨max n1 n2, ?_⟩
          rw [zev_le h1 (Nat.le_max_left n1 n2)]
          dsimp only
          rw [hk]
          exact zev_le h2 (Nat.le_max_right n1 n2)
      · rw [hr] at h; cases h
  · simp [zfin]
/-- k steps at most, up to the first that does not just go on -/
def zrun (k m : Nat) (c : zCf) : Option zStp := match k with
  | 0 => some (.inl c)
  | k + 1 => match zcode m c.1 c.2.1 c.2.2.1 c.2.2.2 with
    | some (.inl c') => zrun k m c'
    | r => r
theorem zE_run (k m pc : Nat) (ls : zLc) (st : List zVal) (σ : zSt) : zE m pc ls st σ = zfin m (zrun k m (pc, ls, st, σ)) := by
  induction k generalizing pc ls st σ with
  | zero => rfl
  | succ k ih =>
    rw [zE_step, zrun]
    dsimp only
    rcases hc : zcode m pc ls st σ with _ | (⟨pc', ls', st', σ'⟩ | r' | ⟨m', as, nl, rk, pc', ls', st', σ'⟩ | e)
    · rfl
    · simp only [zfin]
      exact ih pc' ls' st' σ'
    · rfl
    · rfl
    · rfl
/-- k steps that just go on, and one more -/
def zrx (k m : Nat) (c : zCf) : Option zStp := match zrun k m c with
  | some (.inl c') => zcode m c'.1 c'.2.1 c'.2.2.1 c'.2.2.2
  | r => r
theorem zE_rx (k m pc : Nat) (ls : zLc) (st : List zVal) (σ : zSt) : zE m pc ls st σ = zfin m (zrx k m (pc, ls, st, σ)) := by
  rw [zE_run k, zrx]
  rcases zrun k m (pc, ls, st, σ) with _ | (⟨pc', ls', st', σ'⟩ | r' | ⟨m', as, nl, rk, pc', ls', st', σ'⟩ | e)
  · rfl
  · exact zE_step _ _ _ _ _
  · rfl
  · rfl
  · rfl
def zgd (g : Prop) [Decidable g] (x : Option zOut) : Option zOut := if g then x else none
theorem zgd_pos {g : Prop} [Decidable g] {x : Option zOut} (h : g) : zgd g x = x := if_pos h
theorem zt_go {k m pc pc' : Nat} {ls ls' : zLc} {st st' : List zVal} {σ σ' : zSt} {x : Option zOut} (h : zrun k m (pc, ls, st, σ) = some (.inl (pc', ls', st', σ'))) (h1 : zE m pc' ls' st' σ' = x) : zE m pc ls st σ = x := by
  rw [zE_run k, h]; exact h1
theorem zt_br {k m pc t f : Nat} {ls ls' : zLc} {st st' : List zVal} {σ σ' : zSt} {c : Prop} [Decidable c] {x y : Option zOut} (h : zrun k m (pc, ls, st, σ) = some (.inl (if c then t else f, ls', st', σ'))) (h1 : zE m t ls' st' σ' = x) (h2 : zE m f ls' st' σ' = y) : zE m pc ls st σ = if c then x else y := by
  rw [zE_run k, h]
  show zE m _ _ _ _ = _
  by_cases hc : c
  · rw [if_pos hc, if_pos hc]; exact h1
  · rw [if_neg hc, if_neg hc]; exact h2
theorem zt_or {m : Nat} {ls : zLc} {st : List zVal} {σ : zSt} {t f : Nat} {c : Prop} [Decidable c] {x y : Option zOut} (h1 : zE m t ls st σ = x) (h2 : zE m f ls st σ = y) : zE m (if c then t else f) ls st σ = if c then x else y := by
  by_cases hc : c
  · rw [if_pos hc, if_pos hc]; exact h1
  · rw [if_neg hc, if_neg hc]; exact h2
theorem zt_gd {k m pc pc' : Nat} {ls ls' : zLc} {st st' : List zVal} {σ σ' : zSt} {c : Prop} [Decidable c] {x : Option zOut} (h : zrx k m (pc, ls, st, σ) = if c then some (.inl (pc', ls', st', σ')) else none) (h1 : zE m pc' ls' st' σ' = x) : zE m pc ls st σ = zgd c x := by
  rw [zE_rx k, h, zgd]
  by_cases hc : c
  · rw [if_pos hc, if_pos hc]; exact h1
  · rw [if_neg hc, if_neg hc]; rfl
theorem zt_4 {k m pc pc' : Nat} {ls ls' : zLc} {r : List zVal} {σ : zSt} {st : List zVal} {i : Int} {x0 x1 x2 x3 : Option zOut} (h : zrx k m (pc, ls, st, σ) = if i = 0 then zGo pc' ls' (zR 3 :: r) σ else if i = 1 then zGo pc' ls' (zR 4 :: r) σ else if i = 2 then zGo pc' ls' (zR 5 :: r) σ else if i = 3 then zGo pc' ls' (zR 6 :: r) σ else none)
    (h0 : zE m pc' ls' (zR 3 :: r) σ = x0) (h1 : zE m pc' ls' (zR 4 :: r) σ = x1) (h2 : zE m pc' ls' (zR 5 :: r) σ = x2) (h3 : zE m pc' ls' (zR 6 :: r) σ = x3) : zE m pc ls st σ = if i = 0 then x0 else if i = 1 then x1 else if i = 2 then x2 else if i = 3 then x3 else none := by
  rw [zE_rx k, h]
  by_cases c0 : i = 0
  · rw [if_pos c0, if_pos c0]; exact h0
  rw [if_neg c0, if_neg c0]
  by_cases c1 : i = 1
  · rw [if_pos c1, if_pos c1]; exact h1
  rw [if_neg c1, if_neg c1]
  by_cases c2 : i = 2
  · rw [if_pos c2, if_pos c2]; exact h2
  rw [if_neg c2, if_neg c2]
  by_cases c3 : i = 3
  · rw [if_pos c3, if_pos c3]; exact h3
  rw [if_neg c3, if_neg c3]; rfl
theorem zt_ret {k m pc : Nat} {ls : zLc} {st : List zVal} {σ : zSt} {r : Option zVal × zSt} (h : zrun k m (pc, ls, st, σ) = some (.inr (.inl r))) : zE m pc ls st σ = some (.inl r) := by
  rw [zE_run k, h]; rfl
theorem zt_zret {k m pc : Nat} {ls : zLc} {st : List zVal} {σ : zSt} {c : Prop} [Decidable c] {r : Option zVal × zSt} (h : zrx k m (pc, ls, st, σ) = if c then some (.inr (.inl r)) else none) : zE m pc ls st σ = zgd c (some (.inl r)) := by
  rw [zE_rx k, h, zgd]
  by_cases hc : c
  · rw [if_pos hc, if_pos hc]; rfl
  · rw [if_neg hc, if_neg hc]; rfl
theorem zt_thr {k m pc : Nat} {ls : zLc} {st : List zVal} {σ : zSt} {e : Nat} (h : zrun k m (pc, ls, st, σ) = some (.inr (.inr (.inr e)))) : zE m pc ls st σ = some (.inr e) := by
  rw [zE_run k, h]; rfl
theorem zt_cV {k m pc m' nl pc' : Nat} {ls ls' : zLc} {st st' as : List zVal} {σ σ' : zSt} {F : zSt → Option zOut} (h : zrun k m (pc, ls, st, σ) = some (.inr (.inr (.inl (m', as, nl, 0, (pc', ls', st', σ')))))) (h1 : ∀ σ1, zE m pc' ls' st' σ1 = F σ1) : zE m pc ls st σ = zbV (zE m' 0 (zpad nl (zlay as)) [] σ') F := by
  rw [zE_run k, h]
  simp only [zfin, zbV]
  rcases zE m' 0 (zpad nl (zlay as)) [] σ' with _ | (⟨_ | (x | (x | x)), σ''⟩ | e) <;> simp [zrk, h1]
theorem zt_cI {k m pc m' nl pc' : Nat} {ls ls' : zLc} {st st' as : List zVal} {σ σ' : zSt} {F : Int → zSt → Option zOut} (h : zrun k m (pc, ls, st, σ) = some (.inr (.inr (.inl (m', as, nl, 1, (pc', ls', st', σ')))))) (h1 : ∀ x σ1, zE m pc' ls' (zI x :: st') σ1 = F x σ1) : zE m pc ls st σ = zbI (zE m' 0 (zpad nl (zlay as)) [] σ') F := by
  rw [zE_run k, h]
  simp only [zfin, zbI]
  rcases zE m' 0 (zpad nl (zlay as)) [] σ' with _ | (⟨_ | (x | (x | x)), σ''⟩ | e) <;> simp [zrk, h1]
theorem zt_cL {k m pc m' nl pc' : Nat} {ls ls' : zLc} {st st' as : List zVal} {σ σ' : zSt} {F : Int64 → zSt → Option zOut} (h : zrun k m (pc, ls, st, σ) = some (.inr (.inr (.inl (m', as, nl, 2, (pc', ls', st', σ')))))) (h1 : ∀ x σ1, zE m pc' ls' (zL x :: st') σ1 = F x σ1) : zE m pc ls st σ = zbL (zE m' 0 (zpad nl (zlay as)) [] σ') F := by
  rw [zE_run k, h]
  simp only [zfin, zbL]
  rcases zE m' 0 (zpad nl (zlay as)) [] σ' with _ | (⟨_ | (x | (x | x)), σ''⟩ | e) <;> simp [zrk, h1]
/-! rows for the ends of calls -/
theorem zbV_some {σ : zSt} {F : zSt → Option zOut} : zbV (some (.inl (none, σ))) F = F σ := rfl
theorem zbI_some {x : Int} {σ : zSt} {F : Int → zSt → Option zOut} : zbI (some (.inl (some (zI x), σ))) F = F x σ := rfl
theorem zbL_some {x : Int64} {σ : zSt} {F : Int64 → zSt → Option zOut} : zbL (some (.inl (some (zL x), σ))) F = F x σ := rfl
end
section
/-! ===== 05: the small machine's world in the heap; its numbers as ints of 32 bits ===== -/
theorem zmem {w : Cond} (i : Nat) (h : lw_tbl[i]? = some w) : w ∈ lw_tbl := List.mem_of_getElem? h
/-- the words that a callee may ask for -/
def zWL : List Cond := lw_tbl.filter goodWord
theorem zwl {w : Cond} (i : Nat) (h : lw_tbl[i]? = some w) (hg : goodWord w = true) : w ∈ zWL := List.mem_filter.mpr ⟨List.mem_of_getElem? h, hg⟩
/-- the words of nest mates -/
def znest (w : Cond) : Bool := match w with
  | .fieldLinkNest .. => true
  | .methodLinkNest .. => true
  | _ => false
def zNL : List Cond := lw_tbl.filter znest
theorem znl {w : Cond} (i : Nat) (h : lw_tbl[i]? = some w) (hg : znest w = true) : w ∈ zNL := List.mem_filter.mpr ⟨List.mem_of_getElem? h, hg⟩
def zNst (U : State) : Prop := ∀ w ∈ zNL, va_Nw w U
theorem znest_on {w : Cond} (h : znest w = true) : w.onTables = true := by
  cases w <;> first | rfl | (simp [znest] at h)
theorem zNst_warm {s U : State} (hW : s.WarmedH U.vm) (h : zNst s) : zNst U := by
  intro w hw
  have hn := (List.mem_filter.mp hw).2
  have h1 := h w hw
  cases w <;> first | exact va_Nw.warmF hW h1 | exact va_Nw.warmM hW h1 | (simp [znest] at hn)
theorem zNst_same {u U : State} (e : u.vm = U.vm) (h : zNst u) : zNst U := fun w hw => va_Nw.same (znest_on (List.mem_filter.mp hw).2) e (h w hw)
abbrev zr (x : Int) : Prop := -2147483648 ≤ x ∧ x < 2147483648
theorem zw_r (x : Int) : zr (zw x) := ⟨Int32.le_toInt _, Int32.toInt_lt _⟩
theorem zof_zw (x : Int) : Int32.ofInt (zw x) = Int32.ofInt x := Int32.ofInt_toInt _
theorem zto {x : Int} (h : zr x) : (Int32.ofInt x).toInt = x := Int32.toInt_ofInt_of_le h.1 h.2
theorem zw_id {x : Int} (h1 : -2147483648 ≤ x) (h2 : x < 2147483648) : zw x = x := zto ⟨h1, h2⟩
theorem zof_inj {x y : Int} (hx : zr x) (hy : zr y) : Int32.ofInt x = Int32.ofInt y ↔ x = y := by
  rw [← Int32.toInt_inj, zto hx, zto hy]
theorem zof_lt {x y : Int} (hx : zr x) (hy : zr y) : Int32.ofInt x < Int32.ofInt y ↔ x < y := by
  rw [Int32.lt_iff_toInt_lt, zto hx, zto hy]
theorem zof_le {x y : Int} (hx : zr x) (hy : zr y) : Int32.ofInt x ≤ Int32.ofInt y ↔ x ≤ y := by
  rw [Int32.le_iff_toInt_le, zto hx, zto hy]
theorem zof_cl {x : Int} (h : zr x) : (Int32.ofInt x).toNatClampNeg = x.toNat := by
  rw [← Int32.toNat_toInt, zto h]
theorem zr0 : zr 0 := by constructor <;> decide
theorem zof_0 : Int32.ofInt 0 = 0 := rfl
theorem zof_eq0 {x : Int} (hx : zr x) : Int32.ofInt x = 0 ↔ x = 0 := by rw [← zof_0]; exact zof_inj hx zr0
theorem zof_lt0 {x : Int} (hx : zr x) : Int32.ofInt x < 0 ↔ x < 0 := by rw [← zof_0]; exact zof_lt hx zr0
theorem zof_le0 {x : Int} (hx : zr x) : Int32.ofInt x ≤ 0 ↔ x ≤ 0 := by rw [← zof_0]; exact zof_le hx zr0
theorem zof_0le {x : Int} (hx : zr x) : 0 ≤ Int32.ofInt x ↔ 0 ≤ x := by rw [← zof_0]; exact zof_le zr0 hx
theorem zof_0lt {x : Int} (hx : zr x) : 0 < Int32.ofInt x ↔ 0 < x := by rw [← zof_0]; exact zof_lt zr0 hx
theorem zin {i : Int} {n : Int} (hi : zr i) (h : 0 ≤ i ∧ i < n) : vp_in (Int32.ofInt i) n.toNat := by
  unfold vp_in
  rw [zof_lt0 hi, zof_cl hi]
  omega
/-- a value of the small machine as a value -/
def zv (A : Nat → Nat) (v : zVal) : Value := match v with
  | .inl x => .int (Int32.ofInt x)
  | .inr (.inl k) => .ref (A k)
  | .inr (.inr x) => .long x
def zok (v : zVal) : Prop := match v with
  | .inl x => zr x
  | _ => True
def zoks (σ : zSt) : Prop := ∀ k j, zr (σ k j)
def zfv (A : Nat → Nat) (σ : zSt) (k j : Nat) : Value := match zfl k j with
  | 0 => .int (Int32.ofInt (σ k j))
  | q + 1 => .ref (A q)
/-- how many fields the object at place k has -/
def znf (k : Nat) : Nat := match zcl k with
  | 1 => 3
  | 2 => 8
  | 3 => 4
  | 4 => 15
  | 5 => 4
  | 6 => 12
  | _ => 0
def zent (A : Nat → Nat) (cI cQ : ClassId) (σ : zSt) (k : Nat) : va_E :=
  if zcl k = 0 then (if k = 63 then .inl (cQ, 4, .inr (.inr (.inr (.inr (fun i => some (A (3 + i))))))) else .inl (cI, (zal k).toNat, .inl (fun j => Int32.ofInt (σ k j))))
  else .inr (zcl k - 1, (List.range (znf k)).map (zfv A σ k))
def zW (A : Nat → Nat) (cI cQ : ClassId) (σ : zSt) : va_W := (List.range 69).map (fun k => (A k, zent A cI cQ σ k))
abbrev zcls : List vw_C := [(RX0, TX0, 3), (RX1, TX1, 8), (RX2, TX2, 4), (RX3, TX3, 15), (RX4, TX4, 4), (RX5, TX5, 12)]
abbrev ztys (cI cQ : ClassId) : List (ClassId × FieldType) := [(cI, .int), (cQ, .object RX3)]
theorem zW_get {A : Nat → Nat} {cI cQ : ClassId} {σ : zSt} {k : Nat} (h : k < 69) : (zW A cI cQ σ)[k]? = some (A k, zent A cI cQ σ k) := by
  simp [zW, h]
theorem zW_len {A : Nat → Nat} {cI cQ : ClassId} {σ : zSt} : (zW A cI cQ σ).length = 69 := by simp [zW]
theorem zW_at {A : Nat → Nat} {cI cQ : ClassId} {σ : zSt} {k : Nat} {q : Nat × va_E} (h : (zW A cI cQ σ)[k]? = some q) : k < 69 ∧ q = (A k, zent A cI cQ σ k) := by
  have hk : k < (zW A cI cQ σ).length := (List.getElem?_eq_some_iff.mp h).1
  rw [zW_len] at hk
  rw [zW_get hk] at h
  exact ⟨hk, (Option.some.inj h).symm⟩
theorem zW_set {A : Nat → Nat} {cI cQ : ClassId} {σ σ' : zSt} {k : Nat} {e : va_E} (hk : k < 69) (he : e = zent A cI cQ σ' k) (ho : ∀ j, j ≠ k → zent A cI cQ σ' j = zent A cI cQ σ j) : (zW A cI cQ σ).set k (A k, e) = zW A cI cQ σ' := by
  apply List.ext_getElem?
  intro i
  by_cases hi : i = k
  · subst hi
    rw [List.getElem?_set_self (by rw [zW_len]; exact hk), zW_get hk, he]
  · rw [List.getElem?_set_ne (Ne.symm hi)]
    by_cases h9 : i < 69
    · rw [zW_get h9, zW_get h9, ho i hi]
    · rw [List.getElem?_eq_none (by rw [zW_len]; omega), List.getElem?_eq_none (by rw [zW_len]; omega)]
theorem zcl_lt {k : Nat} (h : zcl k ≠ 0) : k < 10 := by
  unfold zcl at h
  split at h <;> first | omega | exact absurd rfl h
theorem zal_lt {k : Nat} {i : Int} (h : 0 ≤ i ∧ i < zal k) : 10 ≤ k ∧ k < 69 ∧ k ≠ 63 := by
  unfold zal at h
  split at h
  · omega
  · split at h
    · omega
    · split at h <;> omega
theorem zcl_ge {k : Nat} (h : 10 ≤ k) : zcl k = 0 := by
  unfold zcl
  split <;> first | omega | rfl
theorem zent_row {A : Nat → Nat} {cI cQ : ClassId} {σ : zSt} {k : Nat} (h1 : 10 ≤ k) (h3 : k ≠ 63) : zent A cI cQ σ k = .inl (cI, (zal k).toNat, .inl (fun j => Int32.ofInt (σ k j))) := by
  unfold zent
  rw [if_pos (zcl_ge h1), if_neg h3]
theorem zent_obj {A : Nat → Nat} {cI cQ : ClassId} {σ : zSt} {k : Nat} (h : zcl k ≠ 0) : zent A cI cQ σ k = .inr (zcl k - 1, (List.range (znf k)).map (zfv A σ k)) := by
  unfold zent
  rw [if_neg h]
theorem zent_ne {A : Nat → Nat} {cI cQ : ClassId} {σ σ' : zSt} {k : Nat} (h : ∀ j, σ' k j = σ k j) : zent A cI cQ σ' k = zent A cI cQ σ k := by
  have e : σ' k = σ k := funext h
  have e2 : zfv A σ' k = zfv A σ k := by
    funext j
    unfold zfv
    rw [e]
  unfold zent
  rw [e, e2]
theorem zup_ne {σ : zSt} {k j k' : Nat} {v : Int} (h : k' ≠ k) (j' : Nat) : zup σ k j v k' j' = σ k' j' := by simp [zup, h]
theorem zoks_up {σ : zSt} (h : zoks σ) {k j : Nat} {v : Int} (hv : zr v) : zoks (zup σ k j v) := by
  intro k' j'
  unfold zup
  split
  · exact hv
  · exact h k' j'
theorem zoks_cp {σ : zSt} (h : zoks σ) {a d n : Nat} : zoks (zcp σ a d n) := by
  intro k' j'
  unfold zcp
  split
  · exact h a j'
  · exact h k' j'
end
section
/-! ===== 06: that each step of the small machine is the machine's ===== -/
/-- a method's walk: what is known at its entry -/
def zCx (m : Nat) (p : Program) (R : Room) (s : State) (mid : MethodId) (args : Array Value) (meth : Method) (c : Code) (A0 : Nat → Prop) (D : va_G) (cI cQ : ClassId) : Prop :=
  p.tables.exec = Jvm.exec ∧ c.code = zmB m ∧ c.maxLocals = zmX m ∧ meth.sig.returnType = zmR m ∧ meth.locks = false ∧ s.vm.findClass (zmY m).cls = some mid.cls ∧ (∀ w ∈ zWL, w.before args s = true) ∧ zNst s ∧ va_K D zcls (ztys cI cQ) s ∧ (∀ q : Nat, s.heap.size ≤ q → A0 q) ∧ zmH m ≤ R.frames ∧ 32 * zmH m ≤ R.locals
/-- the world at a point of the walk -/
def zAt (A : Nat → Nat) (A0 : Nat → Prop) (D : va_G) (cI cQ : ClassId) (H0 H : Heap) (locs : List Loc) (σ : zSt) : Prop := va_P D zcls (zW A cI cQ σ) H ∧ va_D A0 (zW A cI cQ σ) ∧ va_S A0 H0 H locs
def zLH (A : Nat → Nat) (nL : Nat) (L : zLc) (ls : Array Slot) : Prop := L.length = nL ∧ ls.size = nL ∧ lv_wf ls ∧ ∀ (i : Nat) (v : zVal), L[i]? = some (some v) → ls[i]? = some (.val (zv A v))
def zWf (L : zLc) (st : List zVal) (σ : zSt) : Prop := (∀ (i : Nat) (v : zVal), L[i]? = some (some v) → zok v) ∧ (∀ v ∈ st, zok v) ∧ zoks σ
def zG (m : Nat) (p : Program) (l : Launch) (e : Env) (R : Room) (s : State) (mid : MethodId) (args : Array Value) (below : List Frame) (meth : Method) (c : Code) (A : Nat → Nat) (A0 : Nat → Prop) (D : va_G) (cI cQ : ClassId) (Q : State → Prop) (cf : zCf) : Prop :=
  ∀ (H : Heap) (locs : List Loc) (ls : Array Slot), zAt A A0 D cI cQ s.heap H locs cf.2.2.2 → zLH A (zmX m) cf.2.1 ls → zWf cf.2.1 cf.2.2.1 cf.2.2.2 → W p l e R s mid args below meth c H locs 0 0 Q (F0 mid cf.1 ls (cf.2.2.1.map (zv A)))
/-- the room of method m -/
abbrev zRm (m : Nat) : Room := { frames := zmH m, cells := 0, slots := 0, locals := 32 * zmH m }
abbrev zmW (m : Nat) : List Cond := Cond.code (zmY m) (zmB m) (zmX m) (zmR m) :: zWL
abbrev zPre (D : va_G) (A : Nat → Nat) (cI cQ : ClassId) (sz : Nat) (σ : zSt) (U : State) : Prop := U.heap.size = sz ∧ va_P D zcls (zW A cI cQ σ) U.heap ∧ va_K D zcls (ztys cI cQ) U ∧ va_D (fun _ => True) (zW A cI cQ σ) ∧ zNst U
abbrev zPost (D : va_G) (A : Nat → Nat) (cI cQ : ClassId) (sz : Nat) (σ : zSt) (v : Option zVal) (σ' : zSt) : Array Value → State → Outcome → State → Prop := fun _ st oc t =>
  (oc = .returned (v.map (zv A)) ∧ va_P D zcls (zW A cI cQ σ') t.heap ∧ va_D (va_A (zW A cI cQ σ) sz) (zW A cI cQ σ') ∧ zoks σ' ∧ ∀ x ∈ v.toList, zok x) ∧ va_F (va_A (zW A cI cQ σ) sz) st t
/-- method m with the arguments as over the ints σ answers v and leaves the ints σ' -/
def zCon (l : Launch) (m : Nat) (as : List zVal) (σ : zSt) (v : Option zVal) (σ' : zSt) : Prop :=
  ∀ (D : va_G) (A : Nat → Nat) (cI cQ : ClassId) (sz : Nat), Met l (zmY m) (zmW m) (zRm m) (va_Pc (as.map (zv A)) (zPre D A cI cQ sz σ)) (zPost D A cI cQ sz σ v σ') 0 0 (va_A (zW A cI cQ σ) sz)
/-- where a method ends: the machine's row -/
def zRet (m pc : Nat) (v : Option zVal) : Prop := match v with
  | none => zmR m = none ∧ decode (zmB m) pc = .ok (.return_, 1)
  | some (.inl x) => (zmR m = some .int ∨ (zmR m = some .boolean ∧ (x = 0 ∨ x = 1))) ∧ decode (zmB m) pc = .ok (.ireturn, 1)
  | some (.inr (.inr _)) => zmR m = some .long ∧ decode (zmB m) pc = .ok (.lreturn, 1)
  | _ => False
/-- what the tables say of method m -/
def zMok (m : Nat) : Prop := (Cond.code (zmY m) (zmB m) (zmX m) (zmR m) ∈ zWL ∧ Cond.initialized (zmY m).cls ∈ zWL) ∧ plainName (zmY m).cls = true ∧ (zmY m).cls ≠ "java/lang/invoke/MethodHandle" ∧ (zmY m).cls ≠ "java/lang/invoke/VarHandle"
def zSnd (m pc : Nat) (f : zOp) : Prop :=
  ∀ (p : Program) (l : Launch) (e : Env) (R : Room) (s : State) (mid : MethodId) (args : Array Value) (below : List Frame) (meth : Method) (c : Code) (A : Nat → Nat) (A0 : Nat → Prop) (D : va_G) (cI cQ : ClassId) (Q : State → Prop), zCx m p R s mid args meth c A0 D cI cQ →
    ∀ (L : zLc) (st : List zVal) (σ : zSt) (r : zStp), f L st σ = some r → match r with
      | .inl cf => zG m p l e R s mid args below meth c A A0 D cI cQ Q cf → zG m p l e R s mid args below meth c A A0 D cI cQ Q (pc, L, st, σ)
      | .inr (.inl (v, σ')) => σ' = σ ∧ st = v.toList ∧ zRet m pc v
      | .inr (.inr (.inl (m', as, nl, rk, cf))) => nl = zmX m' ∧ (zlay as).length ≤ nl ∧ zMok m' ∧ cf.2.2.2 = σ ∧ (∀ a ∈ as, a ∈ st) ∧ ∀ (v : Option zVal) (σ1 : zSt) (vs : List zVal), zCon l m' as σ v σ1 → zrk rk v = some vs → zG m p l e R s mid args below meth c A A0 D cI cQ Q (cf.1, cf.2.1, vs ++ cf.2.2.1, σ1) → zG m p l e R s mid args below meth c A A0 D cI cQ Q (pc, L, st, σ)
      | .inr (.inr (.inr _)) => st = []
theorem zS_no {m pc : Nat} : zSnd m pc o_no := by
  intro p l e R s mid args below meth c A A0 D cI cQ Q C L st σ r h
  cases h
/-- the locals that are known, as the kit's rows want them -/
def zll (A : Nat → Nat) (L : zLc) : List (Nat × Value) := (List.range L.length).filterMap (fun i => match L[i]? with
  | some (some v) => some (i, zv A v)
  | _ => none)
theorem zll_mem {A : Nat → Nat} {L : zLc} {q : Nat × Value} (h : q ∈ zll A L) : ∃ v, L[q.1]? = some (some v) ∧ q.2 = zv A v := by
  obtain ⟨i, -, hi⟩ := List.mem_filterMap.mp h
  split at hi
  · rename_i v hv
    cases hi
    exact ⟨v, hv, rfl⟩
  · cases hi
theorem zll_in {A : Nat → Nat} {L : zLc} {i : Nat} {v : zVal} (h : L[i]? = some (some v)) : (i, zv A v) ∈ zll A L := by
  refine List.mem_filterMap.mpr ⟨i, List.mem_range.mpr (List.getElem?_eq_some_iff.mp h).1, ?_⟩
  rw [h]
theorem zLH_has {A : Nat → Nat} {nL : Nat} {L : zLc} {ls : Array Slot} (h : zLH A nL L ls) : lv_has ls nL (zll A L) := by
  refine ⟨h.2.1, h.2.2.1, fun q hq => ?_⟩
  obtain ⟨v, h1, h2⟩ := zll_mem hq
  rw [h.2.2.2 _ _ h1, h2]
theorem zv_cat {A : Nat → Nat} (v : zVal) : (zv A v).category = 2 ↔ ∃ x, v = zL x := by
  rcases v with x | (k | x) <;> simp [zv, Value.category]
theorem zk_len (L : zLc) (i : Nat) : (zk L i).length = L.length := by
  unfold zk
  split
  · rfl
  · split
    · simp
    · rfl
theorem zk_at {L : zLc} {i j : Nat} {v : zVal} (h : (zk L i)[j]? = some (some v)) : L[j]? = some (some v) ∧ ¬ (j + 1 = i ∧ ∃ x, v = zL x) := by
  unfold zk at h
  split at h
  · exact ⟨h, fun q => by omega⟩
  · rename_i i'
    split at h
    · rename_i x hx
      by_cases hj : j = i'
      · subst hj
        rw [List.getElem?_set_self (List.getElem?_eq_some_iff.mp hx).1] at h
        cases h
      · rw [List.getElem?_set_ne (Ne.symm hj)] at h
        exact ⟨h, fun q => hj (by omega)⟩
    · rename_i hx
      refine ⟨h, fun ⟨q1, x, q2⟩ => ?_⟩
      have hj : j = i' := by omega
      subst hj
      subst q2
      exact hx x h
theorem zLH_st1 {A : Nat → Nat} {nL : Nat} {L : zLc} {ls' : Array Slot} {i : Nat} {v : zVal} (hl : L.length = nL) (h : lv_has ls' nL ((i, zv A v) :: (zll A L).filter (fun q => !(q.1 == i) && !(q.1 + 1 == i && q.2.category == 2)))) : zLH A nL (zs1 L i v) ls' := by
  refine ⟨by simp [zs1, zk_len, hl], h.1, h.2.1, fun j w hj => ?_⟩
  unfold zs1 at hj
  by_cases hji : j = i
  · subst hji
    by_cases hlt : j < (zk L j).length
    · rw [List.getElem?_set_self hlt] at hj
      cases hj
      exact h.2.2 (j, zv A v) List.mem_cons_self
    · rw [List.getElem?_eq_none (by simp; omega)] at hj
      cases hj
  · rw [List.getElem?_set_ne (Ne.symm hji)] at hj
    obtain ⟨h1, h2⟩ := zk_at hj
    refine h.2.2 (j, zv A w) (List.mem_cons_of_mem _ (List.mem_filter.mpr ⟨zll_in h1, ?_⟩))
    have h3 : ¬ (j + 1 = i ∧ (zv A w).category = 2) := fun q => h2 ⟨q.1, (zv_cat w).mp q.2⟩
    simp [hji]
    by_cases q1 : j + 1 = i
    · exact Or.inr (fun q2 => h3 ⟨q1, q2⟩)
    · exact Or.inl q1
theorem zLH_st2 {A : Nat → Nat} {nL : Nat} {L : zLc} {ls' : Array Slot} {i : Nat} {v : zVal} (hl : L.length = nL) (h : lv_has ls' nL ((i, zv A v) :: (zll A L).filter (fun q => !(q.1 == i) && (!(q.1 == i + 1) && !(q.1 + 1 == i && q.2.category == 2))))) : zLH A nL (zs2 L i v) ls' := by
  refine ⟨by simp [zs2, zk_len, hl], h.1, h.2.1, fun j w hj => ?_⟩
  unfold zs2 at hj
  by_cases hji1 : j = i + 1
  · subst hji1
    by_cases hlt : i + 1 < ((zk L i).set i (some v)).length
    · rw [List.getElem?_set_self hlt] at hj
      cases hj
    · rw [List.getElem?_eq_none (by simp at hlt ⊢; omega)] at hj
      cases hj
  rw [List.getElem?_set_ne (Ne.symm hji1)] at hj
  by_cases hji : j = i
  · subst hji
    by_cases hlt : j < (zk L j).length
    · rw [List.getElem?_set_self hlt] at hj
      cases hj
      exact h.2.2 (j, zv A v) List.mem_cons_self
    · rw [List.getElem?_eq_none (by simp; omega)] at hj
      cases hj
  · rw [List.getElem?_set_ne (Ne.symm hji)] at hj
    obtain ⟨h1, h2⟩ := zk_at hj
    refine h.2.2 (j, zv A w) (List.mem_cons_of_mem _ (List.mem_filter.mpr ⟨zll_in h1, ?_⟩))
    have h3 : ¬ (j + 1 = i ∧ (zv A w).category = 2) := fun q => h2 ⟨q.1, (zv_cat w).mp q.2⟩
    simp [hji, hji1]
    by_cases q1 : j + 1 = i
    · exact Or.inr (fun q2 => h3 ⟨q1, q2⟩)
    · exact Or.inl q1
theorem zs1_ok {L : zLc} {i j : Nat} {v w : zVal} (hL : ∀ (i : Nat) (v : zVal), L[i]? = some (some v) → zok v) (hv : zok v) (h : (zs1 L i v)[j]? = some (some w)) : zok w := by
  unfold zs1 at h
  by_cases hji : j = i
  · subst hji
    by_cases hlt : j < (zk L j).length
    · rw [List.getElem?_set_self hlt] at h
      cases h
      exact hv
    · rw [List.getElem?_eq_none (by simp; omega)] at h
      cases h
  · rw [List.getElem?_set_ne (Ne.symm hji)] at h
    exact hL _ _ (zk_at h).1
theorem zs2_ok {L : zLc} {i j : Nat} {v w : zVal} (hL : ∀ (i : Nat) (v : zVal), L[i]? = some (some v) → zok v) (hv : zok v) (h : (zs2 L i v)[j]? = some (some w)) : zok w := by
  unfold zs2 at h
  by_cases hji1 : j = i + 1
  · subst hji1
    by_cases hlt : i + 1 < ((zk L i).set i (some v)).length
    · rw [List.getElem?_set_self hlt] at h
      cases h
    · rw [List.getElem?_eq_none (by simp at hlt ⊢; omega)] at h
      cases h
  · rw [List.getElem?_set_ne (Ne.symm hji1)] at h
    exact zs1_ok hL hv h
end
section
/-! ===== 07: a row for each kind of step ===== -/
theorem zS_iconst {m pc nx : Nat} {v : Int} (hd : decode (zmB m) pc = .ok (.iconst v, 1)) (hn : nx = pc + 1) (hv : zr v) : zSnd m pc (o_const v nx) := by
  subst hn
  intro p l e R s mid args below meth c A A0 D cI cQ Q C L st σ r h
  obtain ⟨hx, hb, hml, hr, hlk, hown, hts, hN, hK, hA, hf, hlo⟩ := C
  cases h
  intro G H locs ls hat hlh hwf
  refine lv_iconst (v := Int32.ofInt v) hx hb hd rfl ?_
  exact G H locs ls hat hlh ⟨hwf.1, List.forall_mem_cons.mpr ⟨hv, hwf.2.1⟩, hwf.2.2⟩
theorem zS_bipush {m pc nx : Nat} {v : Int} (hd : decode (zmB m) pc = .ok (.bipush v, 2)) (hn : nx = pc + 2) (hv : zr v) (he : (Int8.ofInt v).toInt32 = Int32.ofInt v) : zSnd m pc (o_const v nx) := by
  subst hn
  intro p l e R s mid args below meth c A A0 D cI cQ Q C L st σ r h
  obtain ⟨hx, hb, hml, hr, hlk, hown, hts, hN, hK, hA, hf, hlo⟩ := C
  cases h
  intro G H locs ls hat hlh hwf
  refine lv_bipush (v := Int32.ofInt v) hx hb hd he ?_
  exact G H locs ls hat hlh ⟨hwf.1, List.forall_mem_cons.mpr ⟨hv, hwf.2.1⟩, hwf.2.2⟩
theorem zS_sipush {m pc nx : Nat} {v : Int} (hd : decode (zmB m) pc = .ok (.sipush v, 3)) (hn : nx = pc + 3) (hv : zr v) (he : (Int16.ofInt v).toInt32 = Int32.ofInt v) : zSnd m pc (o_const v nx) := by
  subst hn
  intro p l e R s mid args below meth c A A0 D cI cQ Q C L st σ r h
  obtain ⟨hx, hb, hml, hr, hlk, hown, hts, hN, hK, hA, hf, hlo⟩ := C
  cases h
  intro G H locs ls hat hlh hwf
  refine lv_sipush (v := Int32.ofInt v) hx hb hd he ?_
  exact G H locs ls hat hlh ⟨hwf.1, List.forall_mem_cons.mpr ⟨hv, hwf.2.1⟩, hwf.2.2⟩
theorem zS_ldc {m pc nx : Nat} {v : Int} {idx : Nat} (hd : decode (zmB m) pc = .ok (.ldc idx, 2)) (hn : nx = pc + 2) (hv : zr v) (hw : Cond.constant (zmY m).cls idx (Int32.ofInt v) ∈ zWL) : zSnd m pc (o_const v nx) := by
  subst hn
  intro p l e R s mid args below meth c A A0 D cI cQ Q C L st σ r h
  obtain ⟨hx, hb, hml, hr, hlk, hown, hts, hN, hK, hA, hf, hlo⟩ := C
  cases h
  intro G H locs ls hat hlh hwf
  refine lv_ldc (v := Int32.ofInt v) hx hb hown (hts _ hw) hd ?_
  exact G H locs ls hat hlh ⟨hwf.1, List.forall_mem_cons.mpr ⟨hv, hwf.2.1⟩, hwf.2.2⟩
theorem zS_ldc_w {m pc nx : Nat} {v : Int} {idx : Nat} (hd : decode (zmB m) pc = .ok (.ldc_w idx, 3)) (hn : nx = pc + 3) (hv : zr v) (hw : Cond.constant (zmY m).cls idx (Int32.ofInt v) ∈ zWL) : zSnd m pc (o_const v nx) := by
  subst hn
  intro p l e R s mid args below meth c A A0 D cI cQ Q C L st σ r h
  obtain ⟨hx, hb, hml, hr, hlk, hown, hts, hN, hK, hA, hf, hlo⟩ := C
  cases h
  intro G H locs ls hat hlh hwf
  refine lv_ldcw (v := Int32.ofInt v) hx hb hown (hts _ hw) hd ?_
  exact G H locs ls hat hlh ⟨hwf.1, List.forall_mem_cons.mpr ⟨hv, hwf.2.1⟩, hwf.2.2⟩
theorem zS_ldc2 {m pc nx idx : Nat} {v : Int64} (hd : decode (zmB m) pc = .ok (.ldc2_w idx, 3)) (hn : nx = pc + 3) (hw : Cond.constantLong (zmY m).cls idx v ∈ zWL) : zSnd m pc (o_lconst v nx) := by
  subst hn
  intro p l e R s mid args below meth c A A0 D cI cQ Q C L st σ r h
  obtain ⟨hx, hb, hml, hr, hlk, hown, hts, hN, hK, hA, hf, hlo⟩ := C
  cases h
  intro G H locs ls hat hlh hwf
  refine lv_ldc2 (v := v) hx hb hown (hts _ hw) hd ?_
  exact G H locs ls hat hlh ⟨hwf.1, List.forall_mem_cons.mpr ⟨trivial, hwf.2.1⟩, hwf.2.2⟩
theorem zS_iload {m pc k nx : Nat} (hd : decode (zmB m) pc = .ok (.iload k, 2)) (hn : nx = pc + 2) : zSnd m pc (o_iload k nx) := by
  subst hn
  intro p l e R s mid args below meth c A A0 D cI cQ Q C L st σ r h
  obtain ⟨hx, hb, hml, hr, hlk, hown, hts, hN, hK, hA, hf, hlo⟩ := C
  simp only [o_iload] at h
  split at h
  · rename_i x hk
    cases h
    intro G H locs ls hat hlh hwf
    refine lv_iload hx hb hd (hlh.2.2.2 _ _ hk) ?_
    exact G H locs ls hat hlh ⟨hwf.1, List.forall_mem_cons.mpr ⟨hwf.1 _ _ hk, hwf.2.1⟩, hwf.2.2⟩
  · cases h
theorem zS_iload_n {m pc k nx : Nat} {i : Fin 4} (hd : decode (zmB m) pc = .ok (.iload_n i, 1)) (hi : (i : Nat) = k) (hn : nx = pc + 1) : zSnd m pc (o_iload k nx) := by
  subst hn
  intro p l e R s mid args below meth c A A0 D cI cQ Q C L st σ r h
  obtain ⟨hx, hb, hml, hr, hlk, hown, hts, hN, hK, hA, hf, hlo⟩ := C
  simp only [o_iload] at h
  split at h
  · rename_i x hk
    cases h
    intro G H locs ls hat hlh hwf
    refine lv_iload_n hx hb hd hi (hlh.2.2.2 _ _ hk) ?_
    exact G H locs ls hat hlh ⟨hwf.1, List.forall_mem_cons.mpr ⟨hwf.1 _ _ hk, hwf.2.1⟩, hwf.2.2⟩
  · cases h
theorem zS_aload {m pc k nx : Nat} (hd : decode (zmB m) pc = .ok (.aload k, 2)) (hn : nx = pc + 2) : zSnd m pc (o_aload k nx) := by
  subst hn
  intro p l e R s mid args below meth c A A0 D cI cQ Q C L st σ r h
  obtain ⟨hx, hb, hml, hr, hlk, hown, hts, hN, hK, hA, hf, hlo⟩ := C
  simp only [o_aload] at h
  split at h
  · rename_i x hk
    cases h
    intro G H locs ls hat hlh hwf
    refine lv_aload hx hb hd (hlh.2.2.2 _ _ hk) ?_
    exact G H locs ls hat hlh ⟨hwf.1, List.forall_mem_cons.mpr ⟨hwf.1 _ _ hk, hwf.2.1⟩, hwf.2.2⟩
  · cases h
theorem zS_aload_n {m pc k nx : Nat} {i : Fin 4} (hd : decode (zmB m) pc = .ok (.aload_n i, 1)) (hi : (i : Nat) = k) (hn : nx = pc + 1) : zSnd m pc (o_aload k nx) := by
  subst hn
  intro p l e R s mid args below meth c A A0 D cI cQ Q C L st σ r h
  obtain ⟨hx, hb, hml, hr, hlk, hown, hts, hN, hK, hA, hf, hlo⟩ := C
  simp only [o_aload] at h
  split at h
  · rename_i x hk
    cases h
    intro G H locs ls hat hlh hwf
    refine lv_aload_n hx hb hd hi (hlh.2.2.2 _ _ hk) ?_
    exact G H locs ls hat hlh ⟨hwf.1, List.forall_mem_cons.mpr ⟨hwf.1 _ _ hk, hwf.2.1⟩, hwf.2.2⟩
  · cases h
theorem zS_lload {m pc k nx : Nat} (hd : decode (zmB m) pc = .ok (.lload k, 2)) (hn : nx = pc + 2) : zSnd m pc (o_lload k nx) := by
  subst hn
  intro p l e R s mid args below meth c A A0 D cI cQ Q C L st σ r h
  obtain ⟨hx, hb, hml, hr, hlk, hown, hts, hN, hK, hA, hf, hlo⟩ := C
  simp only [o_lload] at h
  split at h
  · rename_i x hk
    cases h
    intro G H locs ls hat hlh hwf
    refine lv_lload hx hb hd (hlh.2.2.2 _ _ hk) ?_
    exact G H locs ls hat hlh ⟨hwf.1, List.forall_mem_cons.mpr ⟨hwf.1 _ _ hk, hwf.2.1⟩, hwf.2.2⟩
  · cases h
theorem zS_lload_n {m pc k nx : Nat} {i : Fin 4} (hd : decode (zmB m) pc = .ok (.lload_n i, 1)) (hi : (i : Nat) = k) (hn : nx = pc + 1) : zSnd m pc (o_lload k nx) := by
  subst hn
  intro p l e R s mid args below meth c A A0 D cI cQ Q C L st σ r h
  obtain ⟨hx, hb, hml, hr, hlk, hown, hts, hN, hK, hA, hf, hlo⟩ := C
  simp only [o_lload] at h
  split at h
  · rename_i x hk
    cases h
    intro G H locs ls hat hlh hwf
    refine lv_lload_n hx hb hd hi (hlh.2.2.2 _ _ hk) ?_
    exact G H locs ls hat hlh ⟨hwf.1, List.forall_mem_cons.mpr ⟨hwf.1 _ _ hk, hwf.2.1⟩, hwf.2.2⟩
  · cases h
theorem zS_istore {m pc k nx : Nat} (hd : decode (zmB m) pc = .ok (.istore k, 2)) (hn : nx = pc + 2) (hk : k < zmX m) : zSnd m pc (o_istore k nx) := by
  subst hn
  intro p l e R s mid args below meth c A A0 D cI cQ Q C L st σ r h
  obtain ⟨hx, hb, hml, hr, hlk, hown, hts, hN, hK, hA, hf, hlo⟩ := C
  simp only [o_istore] at h
  split at h
  · rename_i x st
    cases h
    intro G H locs ls hat hlh hwf
    have hv := hwf.2.1 _ List.mem_cons_self
    refine lv_istore hx hb hd (zLH_has hlh) hk rfl (fun ls' hl' => ?_)
    exact G H locs ls' hat (zLH_st1 (v := zI x) hlh.1 hl') ⟨fun j w hj => zs1_ok hwf.1 hv hj, fun v hv => hwf.2.1 v (List.mem_cons_of_mem _ hv), hwf.2.2⟩
  · cases h
theorem zS_istore_n {m pc k nx : Nat} {i : Fin 4} (hd : decode (zmB m) pc = .ok (.istore_n i, 1)) (hi : (i : Nat) = k) (hn : nx = pc + 1) (hk : k < zmX m) : zSnd m pc (o_istore k nx) := by
  subst hn
  intro p l e R s mid args below meth c A A0 D cI cQ Q C L st σ r h
  obtain ⟨hx, hb, hml, hr, hlk, hown, hts, hN, hK, hA, hf, hlo⟩ := C
  simp only [o_istore] at h
  split at h
  · rename_i x st
    cases h
    intro G H locs ls hat hlh hwf
    have hv := hwf.2.1 _ List.mem_cons_self
    refine lv_istore_n hx hb hd hi (zLH_has hlh) hk rfl (fun ls' hl' => ?_)
    exact G H locs ls' hat (zLH_st1 (v := zI x) hlh.1 hl') ⟨fun j w hj => zs1_ok hwf.1 hv hj, fun v hv => hwf.2.1 v (List.mem_cons_of_mem _ hv), hwf.2.2⟩
  · cases h
theorem zS_astore {m pc k nx : Nat} (hd : decode (zmB m) pc = .ok (.astore k, 2)) (hn : nx = pc + 2) (hk : k < zmX m) : zSnd m pc (o_astore k nx) := by
  subst hn
  intro p l e R s mid args below meth c A A0 D cI cQ Q C L st σ r h
  obtain ⟨hx, hb, hml, hr, hlk, hown, hts, hN, hK, hA, hf, hlo⟩ := C
  simp only [o_astore] at h
  split at h
  · rename_i x st
    cases h
    intro G H locs ls hat hlh hwf
    have hv := hwf.2.1 _ List.mem_cons_self
    refine lv_astore hx hb hd (zLH_has hlh) hk rfl (fun ls' hl' => ?_)
    exact G H locs ls' hat (zLH_st1 (v := zR x) hlh.1 hl') ⟨fun j w hj => zs1_ok hwf.1 hv hj, fun v hv => hwf.2.1 v (List.mem_cons_of_mem _ hv), hwf.2.2⟩
  · cases h
theorem zS_astore_n {m pc k nx : Nat} {i : Fin 4} (hd : decode (zmB m) pc = .ok (.astore_n i, 1)) (hi : (i : Nat) = k) (hn : nx = pc + 1) (hk : k < zmX m) : zSnd m pc (o_astore k nx) := by
  subst hn
  intro p l e R s mid args below meth c A A0 D cI cQ Q C L st σ r h
  obtain ⟨hx, hb, hml, hr, hlk, hown, hts, hN, hK, hA, hf, hlo⟩ := C
  simp only [o_astore] at h
  split at h
  · rename_i x st
    cases h
    intro G H locs ls hat hlh hwf
    have hv := hwf.2.1 _ List.mem_cons_self
    refine lv_astore_n hx hb hd hi (zLH_has hlh) hk rfl (fun ls' hl' => ?_)
    exact G H locs ls' hat (zLH_st1 (v := zR x) hlh.1 hl') ⟨fun j w hj => zs1_ok hwf.1 hv hj, fun v hv => hwf.2.1 v (List.mem_cons_of_mem _ hv), hwf.2.2⟩
  · cases h
theorem zS_lstore {m pc k nx : Nat} (hd : decode (zmB m) pc = .ok (.lstore k, 2)) (hn : nx = pc + 2) (hk : k + 1 < zmX m) : zSnd m pc (o_lstore k nx) := by
  subst hn
  intro p l e R s mid args below meth c A A0 D cI cQ Q C L st σ r h
  obtain ⟨hx, hb, hml, hr, hlk, hown, hts, hN, hK, hA, hf, hlo⟩ := C
  simp only [o_lstore] at h
  split at h
  · rename_i x st
    cases h
    intro G H locs ls hat hlh hwf
    have hv := hwf.2.1 _ List.mem_cons_self
    refine lv_lstore hx hb hd (zLH_has hlh) hk rfl (fun ls' hl' => ?_)
    exact G H locs ls' hat (zLH_st2 (v := zL x) hlh.1 hl') ⟨fun j w hj => zs2_ok hwf.1 hv hj, fun v hv => hwf.2.1 v (List.mem_cons_of_mem _ hv), hwf.2.2⟩
  · cases h
theorem zS_lstore_n {m pc k nx : Nat} {i : Fin 4} (hd : decode (zmB m) pc = .ok (.lstore_n i, 1)) (hi : (i : Nat) = k) (hn : nx = pc + 1) (hk : k + 1 < zmX m) : zSnd m pc (o_lstore k nx) := by
  subst hn
  intro p l e R s mid args below meth c A A0 D cI cQ Q C L st σ r h
  obtain ⟨hx, hb, hml, hr, hlk, hown, hts, hN, hK, hA, hf, hlo⟩ := C
  simp only [o_lstore] at h
  split at h
  · rename_i x st
    cases h
    intro G H locs ls hat hlh hwf
    have hv := hwf.2.1 _ List.mem_cons_self
    refine lv_lstore_n hx hb hd hi (zLH_has hlh) hk rfl (fun ls' hl' => ?_)
    exact G H locs ls' hat (zLH_st2 (v := zL x) hlh.1 hl') ⟨fun j w hj => zs2_ok hwf.1 hv hj, fun v hv => hwf.2.1 v (List.mem_cons_of_mem _ hv), hwf.2.2⟩
  · cases h
theorem zS_iinc {m pc k nx : Nat} {d : Int} (hd : decode (zmB m) pc = .ok (.iinc k d, 3)) (hn : nx = pc + 3) (hk : k < zmX m) : zSnd m pc (o_iinc k d nx) := by
  subst hn
  intro p l e R s mid args below meth c A A0 D cI cQ Q C L st σ r h
  obtain ⟨hx, hb, hml, hr, hlk, hown, hts, hN, hK, hA, hf, hlo⟩ := C
  simp only [o_iinc] at h
  split at h
  · rename_i x hx0
    cases h
    intro G H locs ls hat hlh hwf
    obtain ⟨i, hi⟩ := List.getElem?_of_mem (zll_in (A := A) hx0)
    have he : Int32.ofInt x + Int32.ofInt d = Int32.ofInt (zw (x + d)) := by rw [zof_zw, Int32.ofInt_add]
    have hzk : zk L k = L := by
      unfold zk
      split
      · rfl
      · rename_i k'
        split
        · rename_i y hy
          exfalso
          have h1 := hlh.2.2.2 _ _ hy
          have h2 := hlh.2.2.1.1 k' _ h1 rfl
          have h3 := hlh.2.2.2 _ _ hx0
          rw [h2] at h3
          cases h3
        · rfl
    refine lv_iinc hx hb hd (zLH_has hlh) hi he hk rfl (fun ls' hl' => ?_)
    have h9 := zLH_st1 (v := zI (zw (x + d))) hlh.1 hl'
    unfold zs1 at h9
    rw [hzk] at h9
    refine G H locs ls' hat h9 ⟨fun j w hj => ?_, hwf.2.1, hwf.2.2⟩
    refine zs1_ok (i := k) (v := zI (zw (x + d))) hwf.1 (zw_r _) (j := j) ?_
    unfold zs1
    rw [hzk]
    exact hj
  · cases h
theorem zS_iadd {m pc nx : Nat} (hd : decode (zmB m) pc = .ok (.iadd, 1)) (hn : nx = pc + 1) : zSnd m pc (o_iadd nx) := by
  subst hn
  intro p l e R s mid args below meth c A A0 D cI cQ Q C L st σ r h
  obtain ⟨hx, hb, hml, hr, hlk, hown, hts, hN, hK, hA, hf, hlo⟩ := C
  simp only [o_iadd] at h
  split at h
  · rename_i y x st
    cases h
    intro G H locs ls hat hlh hwf
    refine lv_iadd hx hb hd ?_
    rw [← Int32.ofInt_add, ← zof_zw (x + y)]
    exact G H locs ls hat hlh ⟨hwf.1, List.forall_mem_cons.mpr ⟨zw_r _, fun v hv => hwf.2.1 v (List.mem_cons_of_mem _ (List.mem_cons_of_mem _ hv))⟩, hwf.2.2⟩
  · cases h
theorem zS_isub {m pc nx : Nat} (hd : decode (zmB m) pc = .ok (.isub, 1)) (hn : nx = pc + 1) : zSnd m pc (o_isub nx) := by
  subst hn
  intro p l e R s mid args below meth c A A0 D cI cQ Q C L st σ r h
  obtain ⟨hx, hb, hml, hr, hlk, hown, hts, hN, hK, hA, hf, hlo⟩ := C
  simp only [o_isub] at h
  split at h
  · rename_i y x st
    cases h
    intro G H locs ls hat hlh hwf
    refine lv_isub hx hb hd ?_
    rw [← Int32.ofInt_sub, ← zof_zw (x - y)]
    exact G H locs ls hat hlh ⟨hwf.1, List.forall_mem_cons.mpr ⟨zw_r _, fun v hv => hwf.2.1 v (List.mem_cons_of_mem _ (List.mem_cons_of_mem _ hv))⟩, hwf.2.2⟩
  · cases h
theorem zS_imul {m pc nx : Nat} (hd : decode (zmB m) pc = .ok (.imul, 1)) (hn : nx = pc + 1) : zSnd m pc (o_imul nx) := by
  subst hn
  intro p l e R s mid args below meth c A A0 D cI cQ Q C L st σ r h
  obtain ⟨hx, hb, hml, hr, hlk, hown, hts, hN, hK, hA, hf, hlo⟩ := C
  simp only [o_imul] at h
  split at h
  · rename_i y x st
    cases h
    intro G H locs ls hat hlh hwf
    refine lv_imul hx hb hd ?_
    rw [← Int32.ofInt_mul, ← zof_zw (x * y)]
    exact G H locs ls hat hlh ⟨hwf.1, List.forall_mem_cons.mpr ⟨zw_r _, fun v hv => hwf.2.1 v (List.mem_cons_of_mem _ (List.mem_cons_of_mem _ hv))⟩, hwf.2.2⟩
  · cases h
theorem zS_ineg {m pc nx : Nat} (hd : decode (zmB m) pc = .ok (.ineg, 1)) (hn : nx = pc + 1) : zSnd m pc (o_ineg nx) := by
  subst hn
  intro p l e R s mid args below meth c A A0 D cI cQ Q C L st σ r h
  obtain ⟨hx, hb, hml, hr, hlk, hown, hts, hN, hK, hA, hf, hlo⟩ := C
  simp only [o_ineg] at h
  split at h
  · rename_i x st
    cases h
    intro G H locs ls hat hlh hwf
    refine lv_ineg hx hb hd ?_
    have he : (0 : Int32) - Int32.ofInt x = Int32.ofInt (zw (-x)) := by rw [zof_zw, Int32.ofInt_neg, Int32.zero_sub]
    have he2 : -(Int32.ofInt x) = Int32.ofInt (zw (-x)) := by rw [zof_zw, Int32.ofInt_neg]
    first | rw [he] | rw [he2]
    exact G H locs ls hat hlh ⟨hwf.1, List.forall_mem_cons.mpr ⟨zw_r _, fun v hv => hwf.2.1 v (List.mem_cons_of_mem _ hv)⟩, hwf.2.2⟩
  · cases h
theorem zS_i2l {m pc nx : Nat} (hd : decode (zmB m) pc = .ok (.i2l, 1)) (hn : nx = pc + 1) : zSnd m pc (o_i2l nx) := by
  subst hn
  intro p l e R s mid args below meth c A A0 D cI cQ Q C L st σ r h
  obtain ⟨hx, hb, hml, hr, hlk, hown, hts, hN, hK, hA, hf, hlo⟩ := C
  simp only [o_i2l] at h
  split at h
  · rename_i x st
    cases h
    intro G H locs ls hat hlh hwf
    refine lv_i2l hx hb hd rfl ?_
    exact G H locs ls hat hlh ⟨hwf.1, List.forall_mem_cons.mpr ⟨trivial, fun v hv => hwf.2.1 v (List.mem_cons_of_mem _ hv)⟩, hwf.2.2⟩
  · cases h
theorem zS_ladd {m pc nx : Nat} (hd : decode (zmB m) pc = .ok (.ladd, 1)) (hn : nx = pc + 1) : zSnd m pc (o_ladd nx) := by
  subst hn
  intro p l e R s mid args below meth c A A0 D cI cQ Q C L st σ r h
  obtain ⟨hx, hb, hml, hr, hlk, hown, hts, hN, hK, hA, hf, hlo⟩ := C
  simp only [o_ladd] at h
  split at h
  · rename_i y x st
    cases h
    intro G H locs ls hat hlh hwf
    refine lv_ladd hx hb hd ?_
    exact G H locs ls hat hlh ⟨hwf.1, List.forall_mem_cons.mpr ⟨trivial, fun v hv => hwf.2.1 v (List.mem_cons_of_mem _ (List.mem_cons_of_mem _ hv))⟩, hwf.2.2⟩
  · cases h
theorem zS_lmul {m pc nx : Nat} (hd : decode (zmB m) pc = .ok (.lmul, 1)) (hn : nx = pc + 1) : zSnd m pc (o_lmul nx) := by
  subst hn
  intro p l e R s mid args below meth c A A0 D cI cQ Q C L st σ r h
  obtain ⟨hx, hb, hml, hr, hlk, hown, hts, hN, hK, hA, hf, hlo⟩ := C
  simp only [o_lmul] at h
  split at h
  · rename_i y x st
    cases h
    intro G H locs ls hat hlh hwf
    refine lv_lmul hx hb hd ?_
    exact G H locs ls hat hlh ⟨hwf.1, List.forall_mem_cons.mpr ⟨trivial, fun v hv => hwf.2.1 v (List.mem_cons_of_mem _ (List.mem_cons_of_mem _ hv))⟩, hwf.2.2⟩
  · cases h
theorem zc1_cat {A : Nat → Nat} {v : zVal} (h : zc1 v = true) : (zv A v).category = 1 := by
  rcases v with x | (k | x)
  · rfl
  · rfl
  · simp [zc1] at h
theorem zS_dup {m pc nx : Nat} (hd : decode (zmB m) pc = .ok (.dup, 1)) (hn : nx = pc + 1) : zSnd m pc (o_dup nx) := by
  subst hn
  intro p l e R s mid args below meth c A A0 D cI cQ Q C L st σ r h
  obtain ⟨hx, hb, hml, hr, hlk, hown, hts, hN, hK, hA, hf, hlo⟩ := C
  simp only [o_dup] at h
  split at h
  · rename_i a st
    cases h1 : zc1 a
    · rw [h1] at h; cases h
    rw [h1] at h
    cases h
    intro G H locs ls hat hlh hwf
    refine lv_dup hx hb hd (zc1_cat h1) ?_
    exact G H locs ls hat hlh ⟨hwf.1, List.forall_mem_cons.mpr ⟨hwf.2.1 _ List.mem_cons_self, hwf.2.1⟩, hwf.2.2⟩
  · cases h
theorem zS_dup2 {m pc nx : Nat} (hd : decode (zmB m) pc = .ok (.dup2, 1)) (hn : nx = pc + 1) : zSnd m pc (o_dup2 nx) := by
  subst hn
  intro p l e R s mid args below meth c A A0 D cI cQ Q C L st σ r h
  obtain ⟨hx, hb, hml, hr, hlk, hown, hts, hN, hK, hA, hf, hlo⟩ := C
  simp only [o_dup2] at h
  split at h
  · rename_i a b st
    cases h1 : zc1 a
    · rw [h1] at h; cases h
    cases h2 : zc1 b
    · rw [h1, h2] at h; cases h
    rw [h1, h2] at h
    cases h
    intro G H locs ls hat hlh hwf
    refine lv_dup2_11 hx hb hd (zc1_cat h1) (zc1_cat h2) ?_
    exact G H locs ls hat hlh ⟨hwf.1, List.forall_mem_cons.mpr ⟨hwf.2.1 _ List.mem_cons_self, List.forall_mem_cons.mpr ⟨hwf.2.1 _ (List.mem_cons_of_mem _ List.mem_cons_self), hwf.2.1⟩⟩, hwf.2.2⟩
  · cases h
theorem zS_pop {m pc nx : Nat} (hd : decode (zmB m) pc = .ok (.pop, 1)) (hn : nx = pc + 1) : zSnd m pc (o_pop nx) := by
  subst hn
  intro p l e R s mid args below meth c A A0 D cI cQ Q C L st σ r h
  obtain ⟨hx, hb, hml, hr, hlk, hown, hts, hN, hK, hA, hf, hlo⟩ := C
  simp only [o_pop] at h
  split at h
  · rename_i a st
    cases h1 : zc1 a
    · rw [h1] at h; cases h
    rw [h1] at h
    cases h
    intro G H locs ls hat hlh hwf
    refine lv_pop hx hb hd (zc1_cat h1) ?_
    exact G H locs ls hat hlh ⟨hwf.1, fun v hv => hwf.2.1 v (List.mem_cons_of_mem _ hv), hwf.2.2⟩
  · cases h
theorem zS_goto {m pc t : Nat} {off : Int} (hd : decode (zmB m) pc = .ok (.goto off, 3)) (ht : (pc : Int) + off = (t : Int)) : zSnd m pc (o_goto t) := by
  intro p l e R s mid args below meth c A A0 D cI cQ Q C L st σ r h
  obtain ⟨hx, hb, hml, hr, hlk, hown, hts, hN, hK, hA, hf, hlo⟩ := C
  cases h
  intro G H locs ls hat hlh hwf
  refine lv_goto hx hb hd ht ?_
  exact G H locs ls hat hlh hwf
theorem zS_ifeq {m pc t nx : Nat} {off : Int} (hd : decode (zmB m) pc = .ok (.ifCond .eq off, 3)) (hn : nx = pc + 3) (ht : (pc : Int) + off = (t : Int)) : zSnd m pc (o_ifeq t nx) := by
  subst hn
  intro p l e R s mid args below meth c A A0 D cI cQ Q C L st σ r h
  obtain ⟨hx, hb, hml, hr, hlk, hown, hts, hN, hK, hA, hf, hlo⟩ := C
  simp only [o_ifeq] at h
  split at h
  · rename_i x st
    cases h
    intro G H locs ls hat hlh hwf
    have hxr : zr x := hwf.2.1 _ List.mem_cons_self
    have hw2 : ∀ v ∈ st, zok v := fun v hv => hwf.2.1 v (List.mem_cons_of_mem _ hv)
    refine lv_if_eq hx hb hd ht (fun h0 => ?_) (fun h0 => ?_)
    · have hc : x = 0 := (zof_eq0 hxr).mp h0
      rw [if_pos hc] at G
      exact G H locs ls hat hlh ⟨hwf.1, hw2, hwf.2.2⟩
    · have hc : ¬ x = 0 := fun q => h0 ((zof_eq0 hxr).mpr q)
      rw [if_neg hc] at G
      exact G H locs ls hat hlh ⟨hwf.1, hw2, hwf.2.2⟩
  · cases h
theorem zS_ifne {m pc t nx : Nat} {off : Int} (hd : decode (zmB m) pc = .ok (.ifCond .ne off, 3)) (hn : nx = pc + 3) (ht : (pc : Int) + off = (t : Int)) : zSnd m pc (o_ifne t nx) := by
  subst hn
  intro p l e R s mid args below meth c A A0 D cI cQ Q C L st σ r h
  obtain ⟨hx, hb, hml, hr, hlk, hown, hts, hN, hK, hA, hf, hlo⟩ := C
  simp only [o_ifne] at h
  split at h
  · rename_i x st
    cases h
    intro G H locs ls hat hlh hwf
    have hxr : zr x := hwf.2.1 _ List.mem_cons_self
    have hw2 : ∀ v ∈ st, zok v := fun v hv => hwf.2.1 v (List.mem_cons_of_mem _ hv)
    refine lv_if_ne hx hb hd ht (fun h0 => ?_) (fun h0 => ?_)
    · have hc : ¬ x = 0 := fun q => h0 ((zof_eq0 hxr).mpr q)
      rw [if_neg hc] at G
      exact G H locs ls hat hlh ⟨hwf.1, hw2, hwf.2.2⟩
    · have hc : x = 0 := (zof_eq0 hxr).mp h0
      rw [if_pos hc] at G
      exact G H locs ls hat hlh ⟨hwf.1, hw2, hwf.2.2⟩
  · cases h
theorem zS_iflt {m pc t nx : Nat} {off : Int} (hd : decode (zmB m) pc = .ok (.ifCond .lt off, 3)) (hn : nx = pc + 3) (ht : (pc : Int) + off = (t : Int)) : zSnd m pc (o_iflt t nx) := by
  subst hn
  intro p l e R s mid args below meth c A A0 D cI cQ Q C L st σ r h
  obtain ⟨hx, hb, hml, hr, hlk, hown, hts, hN, hK, hA, hf, hlo⟩ := C
  simp only [o_iflt] at h
  split at h
  · rename_i x st
    cases h
    intro G H locs ls hat hlh hwf
    have hxr : zr x := hwf.2.1 _ List.mem_cons_self
    have hw2 : ∀ v ∈ st, zok v := fun v hv => hwf.2.1 v (List.mem_cons_of_mem _ hv)
    refine lv_if_lt hx hb hd ht (fun h0 => ?_) (fun h0 => ?_)
    · have hc : x < 0 := (zof_lt0 hxr).mp h0
      rw [if_pos hc] at G
      exact G H locs ls hat hlh ⟨hwf.1, hw2, hwf.2.2⟩
    · have hc : ¬ x < 0 := fun q => h0 ((zof_lt0 hxr).mpr q)
      rw [if_neg hc] at G
      exact G H locs ls hat hlh ⟨hwf.1, hw2, hwf.2.2⟩
  · cases h
theorem zS_ifge {m pc t nx : Nat} {off : Int} (hd : decode (zmB m) pc = .ok (.ifCond .ge off, 3)) (hn : nx = pc + 3) (ht : (pc : Int) + off = (t : Int)) : zSnd m pc (o_ifge t nx) := by
  subst hn
  intro p l e R s mid args below meth c A A0 D cI cQ Q C L st σ r h
  obtain ⟨hx, hb, hml, hr, hlk, hown, hts, hN, hK, hA, hf, hlo⟩ := C
  simp only [o_ifge] at h
  split at h
  · rename_i x st
    cases h
    intro G H locs ls hat hlh hwf
    have hxr : zr x := hwf.2.1 _ List.mem_cons_self
    have hw2 : ∀ v ∈ st, zok v := fun v hv => hwf.2.1 v (List.mem_cons_of_mem _ hv)
    refine lv_if_ge hx hb hd ht (fun h0 => ?_) (fun h0 => ?_)
    · have hc : ¬ x < 0 := by have := (zof_0le hxr).mp h0; omega
      rw [if_neg hc] at G
      exact G H locs ls hat hlh ⟨hwf.1, hw2, hwf.2.2⟩
    · have hc : x < 0 := Int.not_le.mp (fun q => h0 ((zof_0le hxr).mpr q))
      rw [if_pos hc] at G
      exact G H locs ls hat hlh ⟨hwf.1, hw2, hwf.2.2⟩
  · cases h
theorem zS_ifgt {m pc t nx : Nat} {off : Int} (hd : decode (zmB m) pc = .ok (.ifCond .gt off, 3)) (hn : nx = pc + 3) (ht : (pc : Int) + off = (t : Int)) : zSnd m pc (o_ifgt t nx) := by
  subst hn
  intro p l e R s mid args below meth c A A0 D cI cQ Q C L st σ r h
  obtain ⟨hx, hb, hml, hr, hlk, hown, hts, hN, hK, hA, hf, hlo⟩ := C
  simp only [o_ifgt] at h
  split at h
  · rename_i x st
    cases h
    intro G H locs ls hat hlh hwf
    have hxr : zr x := hwf.2.1 _ List.mem_cons_self
    have hw2 : ∀ v ∈ st, zok v := fun v hv => hwf.2.1 v (List.mem_cons_of_mem _ hv)
    refine lv_if_gt hx hb hd ht (fun h0 => ?_) (fun h0 => ?_)
    · have hc : ¬ x ≤ 0 := by have := (zof_0lt hxr).mp h0; omega
      rw [if_neg hc] at G
      exact G H locs ls hat hlh ⟨hwf.1, hw2, hwf.2.2⟩
    · have hc : x ≤ 0 := Int.not_lt.mp (fun q => h0 ((zof_0lt hxr).mpr q))
      rw [if_pos hc] at G
      exact G H locs ls hat hlh ⟨hwf.1, hw2, hwf.2.2⟩
  · cases h
theorem zS_ifle {m pc t nx : Nat} {off : Int} (hd : decode (zmB m) pc = .ok (.ifCond .le off, 3)) (hn : nx = pc + 3) (ht : (pc : Int) + off = (t : Int)) : zSnd m pc (o_ifle t nx) := by
  subst hn
  intro p l e R s mid args below meth c A A0 D cI cQ Q C L st σ r h
  obtain ⟨hx, hb, hml, hr, hlk, hown, hts, hN, hK, hA, hf, hlo⟩ := C
  simp only [o_ifle] at h
  split at h
  · rename_i x st
    cases h
    intro G H locs ls hat hlh hwf
    have hxr : zr x := hwf.2.1 _ List.mem_cons_self
    have hw2 : ∀ v ∈ st, zok v := fun v hv => hwf.2.1 v (List.mem_cons_of_mem _ hv)
    refine lv_if_le hx hb hd ht (fun h0 => ?_) (fun h0 => ?_)
    · have hc : x ≤ 0 := (zof_le0 hxr).mp h0
      rw [if_pos hc] at G
      exact G H locs ls hat hlh ⟨hwf.1, hw2, hwf.2.2⟩
    · have hc : ¬ x ≤ 0 := fun q => h0 ((zof_le0 hxr).mpr q)
      rw [if_neg hc] at G
      exact G H locs ls hat hlh ⟨hwf.1, hw2, hwf.2.2⟩
  · cases h
theorem zS_ceq {m pc t nx : Nat} {off : Int} (hd : decode (zmB m) pc = .ok (.if_icmp .eq off, 3)) (hn : nx = pc + 3) (ht : (pc : Int) + off = (t : Int)) : zSnd m pc (o_ceq t nx) := by
  subst hn
  intro p l e R s mid args below meth c A A0 D cI cQ Q C L st σ r h
  obtain ⟨hx, hb, hml, hr, hlk, hown, hts, hN, hK, hA, hf, hlo⟩ := C
  simp only [o_ceq] at h
  split at h
  · rename_i y x st
    cases h
    intro G H locs ls hat hlh hwf
    have hyr : zr y := hwf.2.1 _ List.mem_cons_self
    have hxr : zr x := hwf.2.1 _ (List.mem_cons_of_mem _ List.mem_cons_self)
    have hw2 : ∀ v ∈ st, zok v := fun v hv => hwf.2.1 v (List.mem_cons_of_mem _ (List.mem_cons_of_mem _ hv))
    refine lv_icmp_eq hx hb hd ht (fun h0 => ?_) (fun h0 => ?_)
    · have hc : x = y := (zof_inj hxr hyr).mp h0
      rw [if_pos hc] at G
      exact G H locs ls hat hlh ⟨hwf.1, hw2, hwf.2.2⟩
    · have hc : ¬ x = y := fun q => h0 ((zof_inj hxr hyr).mpr q)
      rw [if_neg hc] at G
      exact G H locs ls hat hlh ⟨hwf.1, hw2, hwf.2.2⟩
  · cases h
theorem zS_cne {m pc t nx : Nat} {off : Int} (hd : decode (zmB m) pc = .ok (.if_icmp .ne off, 3)) (hn : nx = pc + 3) (ht : (pc : Int) + off = (t : Int)) : zSnd m pc (o_cne t nx) := by
  subst hn
  intro p l e R s mid args below meth c A A0 D cI cQ Q C L st σ r h
  obtain ⟨hx, hb, hml, hr, hlk, hown, hts, hN, hK, hA, hf, hlo⟩ := C
  simp only [o_cne] at h
  split at h
  · rename_i y x st
    cases h
    intro G H locs ls hat hlh hwf
    have hyr : zr y := hwf.2.1 _ List.mem_cons_self
    have hxr : zr x := hwf.2.1 _ (List.mem_cons_of_mem _ List.mem_cons_self)
    have hw2 : ∀ v ∈ st, zok v := fun v hv => hwf.2.1 v (List.mem_cons_of_mem _ (List.mem_cons_of_mem _ hv))
    refine lv_icmp_ne hx hb hd ht (fun h0 => ?_) (fun h0 => ?_)
    · have hc : ¬ x = y := fun q => h0 ((zof_inj hxr hyr).mpr q)
      rw [if_neg hc] at G
      exact G H locs ls hat hlh ⟨hwf.1, hw2, hwf.2.2⟩
    · have hc : x = y := (zof_inj hxr hyr).mp h0
      rw [if_pos hc] at G
      exact G H locs ls hat hlh ⟨hwf.1, hw2, hwf.2.2⟩
  · cases h
theorem zS_clt {m pc t nx : Nat} {off : Int} (hd : decode (zmB m) pc = .ok (.if_icmp .lt off, 3)) (hn : nx = pc + 3) (ht : (pc : Int) + off = (t : Int)) : zSnd m pc (o_clt t nx) := by
  subst hn
  intro p l e R s mid args below meth c A A0 D cI cQ Q C L st σ r h
  obtain ⟨hx, hb, hml, hr, hlk, hown, hts, hN, hK, hA, hf, hlo⟩ := C
  simp only [o_clt] at h
  split at h
  · rename_i y x st
    cases h
    intro G H locs ls hat hlh hwf
    have hyr : zr y := hwf.2.1 _ List.mem_cons_self
    have hxr : zr x := hwf.2.1 _ (List.mem_cons_of_mem _ List.mem_cons_self)
    have hw2 : ∀ v ∈ st, zok v := fun v hv => hwf.2.1 v (List.mem_cons_of_mem _ (List.mem_cons_of_mem _ hv))
    refine lv_icmp_lt hx hb hd ht (fun h0 => ?_) (fun h0 => ?_)
    · have hc : x < y := (zof_lt hxr hyr).mp h0
      rw [if_pos hc] at G
      exact G H locs ls hat hlh ⟨hwf.1, hw2, hwf.2.2⟩
    · have hc : ¬ x < y := fun q => h0 ((zof_lt hxr hyr).mpr q)
      rw [if_neg hc] at G
      exact G H locs ls hat hlh ⟨hwf.1, hw2, hwf.2.2⟩
  · cases h
theorem zS_cge {m pc t nx : Nat} {off : Int} (hd : decode (zmB m) pc = .ok (.if_icmp .ge off, 3)) (hn : nx = pc + 3) (ht : (pc : Int) + off = (t : Int)) : zSnd m pc (o_cge t nx) := by
  subst hn
  intro p l e R s mid args below meth c A A0 D cI cQ Q C L st σ r h
  obtain ⟨hx, hb, hml, hr, hlk, hown, hts, hN, hK, hA, hf, hlo⟩ := C
  simp only [o_cge] at h
  split at h
  · rename_i y x st
    cases h
    intro G H locs ls hat hlh hwf
    have hyr : zr y := hwf.2.1 _ List.mem_cons_self
    have hxr : zr x := hwf.2.1 _ (List.mem_cons_of_mem _ List.mem_cons_self)
    have hw2 : ∀ v ∈ st, zok v := fun v hv => hwf.2.1 v (List.mem_cons_of_mem _ (List.mem_cons_of_mem _ hv))
    refine lv_icmp_ge hx hb hd ht (fun h0 => ?_) (fun h0 => ?_)
    · have hc : ¬ x < y := by have := (zof_le hyr hxr).mp h0; omega
      rw [if_neg hc] at G
      exact G H locs ls hat hlh ⟨hwf.1, hw2, hwf.2.2⟩
    · have hc : x < y := Int.not_le.mp (fun q => h0 ((zof_le hyr hxr).mpr q))
      rw [if_pos hc] at G
      exact G H locs ls hat hlh ⟨hwf.1, hw2, hwf.2.2⟩
  · cases h
theorem zS_cgt {m pc t nx : Nat} {off : Int} (hd : decode (zmB m) pc = .ok (.if_icmp .gt off, 3)) (hn : nx = pc + 3) (ht : (pc : Int) + off = (t : Int)) : zSnd m pc (o_cgt t nx) := by
  subst hn
  intro p l e R s mid args below meth c A A0 D cI cQ Q C L st σ r h
  obtain ⟨hx, hb, hml, hr, hlk, hown, hts, hN, hK, hA, hf, hlo⟩ := C
  simp only [o_cgt] at h
  split at h
  · rename_i y x st
    cases h
    intro G H locs ls hat hlh hwf
    have hyr : zr y := hwf.2.1 _ List.mem_cons_self
    have hxr : zr x := hwf.2.1 _ (List.mem_cons_of_mem _ List.mem_cons_self)
    have hw2 : ∀ v ∈ st, zok v := fun v hv => hwf.2.1 v (List.mem_cons_of_mem _ (List.mem_cons_of_mem _ hv))
    refine lv_icmp_gt hx hb hd ht (fun h0 => ?_) (fun h0 => ?_)
    · have hc : ¬ x ≤ y := by have := (zof_lt hyr hxr).mp h0; omega
      rw [if_neg hc] at G
      exact G H locs ls hat hlh ⟨hwf.1, hw2, hwf.2.2⟩
    · have hc : x ≤ y := Int.not_lt.mp (fun q => h0 ((zof_lt hyr hxr).mpr q))
      rw [if_pos hc] at G
      exact G H locs ls hat hlh ⟨hwf.1, hw2, hwf.2.2⟩
  · cases h
theorem zS_cle {m pc t nx : Nat} {off : Int} (hd : decode (zmB m) pc = .ok (.if_icmp .le off, 3)) (hn : nx = pc + 3) (ht : (pc : Int) + off = (t : Int)) : zSnd m pc (o_cle t nx) := by
  subst hn
  intro p l e R s mid args below meth c A A0 D cI cQ Q C L st σ r h
  obtain ⟨hx, hb, hml, hr, hlk, hown, hts, hN, hK, hA, hf, hlo⟩ := C
  simp only [o_cle] at h
  split at h
  · rename_i y x st
    cases h
    intro G H locs ls hat hlh hwf
    have hyr : zr y := hwf.2.1 _ List.mem_cons_self
    have hxr : zr x := hwf.2.1 _ (List.mem_cons_of_mem _ List.mem_cons_self)
    have hw2 : ∀ v ∈ st, zok v := fun v hv => hwf.2.1 v (List.mem_cons_of_mem _ (List.mem_cons_of_mem _ hv))
    refine lv_icmp_le hx hb hd ht (fun h0 => ?_) (fun h0 => ?_)
    · have hc : x ≤ y := (zof_le hxr hyr).mp h0
      rw [if_pos hc] at G
      exact G H locs ls hat hlh ⟨hwf.1, hw2, hwf.2.2⟩
    · have hc : ¬ x ≤ y := fun q => h0 ((zof_le hxr hyr).mpr q)
      rw [if_neg hc] at G
      exact G H locs ls hat hlh ⟨hwf.1, hw2, hwf.2.2⟩
  · cases h
end
section
/-! ===== 08: rows for steps that touch the world, calls and ends ===== -/
theorem zat_in {w : Cond} (h : w ∈ zWL) : w ∈ lw_tbl := (List.mem_filter.mp h).1
theorem zfs_at {A : Nat → Nat} {σ : zSt} {k j : Nat} (h : j < znf k) : ((List.range (znf k)).map (zfv A σ k))[j]? = some (zfv A σ k j) := by
  simp [h]
theorem zfs_set {A : Nat → Nat} {σ : zSt} {k j : Nat} {x : Int} (h0 : zfl k j = 0) (hj : j < znf k) : ((List.range (znf k)).map (zfv A σ k)).set j (.int (Int32.ofInt x)) = (List.range (znf k)).map (zfv A (zup σ k j x) k) := by
  apply List.ext_getElem?
  intro i
  by_cases hi : i = j
  · subst hi
    rw [List.getElem?_set_self (by simpa using hj), zfs_at hj]
    simp [zfv, h0, zup]
  · rw [List.getElem?_set_ne (Ne.symm hi)]
    by_cases h9 : i < znf k
    · rw [zfs_at h9, zfs_at h9]
      have e : zup σ k j x k i = σ k i := by simp [zup, hi]
      simp [zfv, e]
    · rw [List.getElem?_eq_none (by simp; omega), List.getElem?_eq_none (by simp; omega)]
def zNf (ci : Nat) : Nat := match ci with
  | 1 => 3
  | 2 => 8
  | 3 => 4
  | 4 => 15
  | 5 => 4
  | 6 => 12
  | _ => 0
theorem znf_of {k ci : Nat} (h : zcl k = ci) : znf k = zNf ci := by
  subst h
  rfl
theorem zent_put {A : Nat → Nat} {cI cQ : ClassId} {σ : zSt} {k j : Nat} {x : Int} (hc : zcl k ≠ 0) (h0 : zfl k j = 0) (hj : j < znf k) : (zW A cI cQ σ).set k (A k, .inr (zcl k - 1, ((List.range (znf k)).map (zfv A σ k)).set j (.int (Int32.ofInt x)))) = zW A cI cQ (zup σ k j x) := by
  refine zW_set (by have := zcl_lt hc; omega) ?_ (fun i hi => zent_ne (fun j' => zup_ne hi j'))
  rw [zent_obj hc, zfs_set h0 hj]
theorem zS_getf {m pc ci j nx idx N : Nat} {C : String} {T : u_T} (hd : decode (zmB m) pc = .ok (.getfield idx, 3)) (hn : nx = pc + 3) (h0 : ci ≠ 0) (hc : zcls[ci - 1]? = some (C, T, N)) (hj : j < N) (hnf : N = zNf ci) (hin : ∀ w ∈ u_ws C T N, w ∈ zWL) (hw : Cond.fieldLink (zmY m).cls idx (T j).1 (T j).2.1 (T j).2.2.1 ∈ zWL) : zSnd m pc (o_getf ci j nx) := by
  subst hn
  intro p l e R s mid args below meth c A A0 D cI cQ Q C L st σ r h
  obtain ⟨hx, hb, hml, hr, hlk, hown, hts, hN, hK, hA, hf, hlo⟩ := C
  simp only [o_getf] at h
  split at h
  · rename_i k st
    cases h1 : Nat.beq (zcl k) ci
    · rw [h1] at h; cases h
    rw [h1] at h
    have hk := Nat.eq_of_beq_eq_true h1
    have hk0 : zcl k ≠ 0 := by rw [hk]; exact h0
    have hk9 := zcl_lt hk0
    have hjn : j < znf k := by rw [znf_of hk, ← hnf]; exact hj
    have key : ∀ (v : zVal) (H : Heap) (locs : List Loc) (ls : Array Slot), zv A v = zfv A σ k j → zAt A A0 D cI cQ s.heap H locs σ → W p l e R s mid args below meth c H locs 0 0 Q (F0 mid (pc + 3) ls (zv A v :: st.map (zv A))) → W p l e R s mid args below meth c H locs 0 0 Q (F0 mid pc ls (.ref (A k) :: st.map (zv A))) := by
      intro v H locs ls hv hat kk
      refine va_get (ci := ci - 1) (v := zfv A σ k j) hx hb hts hin hown hK hat.1 k (by rw [zW_get (by omega), zent_obj hk0, hk]) hc j hj (hts _ hw) (fun _ h9 => h9) (zfs_at hjn) hd ?_
      rw [← hv]
      exact kk
    dsimp only [cond] at h
    split at h
    · rename_i hz
      cases h
      intro G H locs ls hat hlh hwf
      refine key (zI (σ k j)) H locs ls (by simp [zfv, hz, zv]) hat ?_
      exact G H locs ls hat hlh ⟨hwf.1, List.forall_mem_cons.mpr ⟨hwf.2.2 k j, fun v hv => hwf.2.1 v (List.mem_cons_of_mem _ hv)⟩, hwf.2.2⟩
    · rename_i q hz
      cases h
      intro G H locs ls hat hlh hwf
      refine key (zR q) H locs ls (by simp [zfv, hz, zv]) hat ?_
      exact G H locs ls hat hlh ⟨hwf.1, List.forall_mem_cons.mpr ⟨trivial, fun v hv => hwf.2.1 v (List.mem_cons_of_mem _ hv)⟩, hwf.2.2⟩
  · cases h
theorem zS_putf {m pc ci j nx idx N : Nat} {C : String} {T : u_T} {ty0 : Nat → FieldType} (hd : decode (zmB m) pc = .ok (.putfield idx, 3)) (hn : nx = pc + 3) (h0 : ci ≠ 0) (hc : zcls[ci - 1]? = some (C, T, N)) (hj : j < N) (hnf : N = zNf ci) (hin : ∀ w ∈ u_ws C T N, w ∈ zWL) (hty : ∀ k, k < N → parseFieldDescriptor (T k).2.2.1 = some (ty0 k)) (hnm : ∀ a, a < N → ∀ b, b < N → a ≠ b → (T a).2.1 ≠ (T b).2.1) (hfin : (T j).2.2.2 = false) (hft : parseFieldDescriptor (T j).2.2.1 = some .int) (hw : Cond.fieldLink (zmY m).cls idx (T j).1 (T j).2.1 (T j).2.2.1 ∈ zWL) : zSnd m pc (o_putf ci j nx) := by
  subst hn
  intro p l e R s mid args below meth c A A0 D cI cQ Q C L st σ r h
  obtain ⟨hx, hb, hml, hr, hlk, hown, hts, hN, hK, hA, hf, hlo⟩ := C
  simp only [o_putf] at h
  split at h
  · rename_i x k st
    cases h1 : Nat.beq (zcl k) ci
    · rw [h1] at h; cases h
    cases h2 : Nat.beq (zfl k j) 0
    · rw [h1, h2] at h; cases h
    rw [h1, h2] at h
    have hk := Nat.eq_of_beq_eq_true h1
    have hz := Nat.eq_of_beq_eq_true h2
    have hk0 : zcl k ≠ 0 := by rw [hk]; exact h0
    have hk9 := zcl_lt hk0
    have hjn : j < znf k := by rw [znf_of hk, ← hnf]; exact hj
    dsimp only [cond, Bool.and] at h
    cases h
    intro G H locs ls hat hlh hwf
    have hxr : zr x := hwf.2.1 _ List.mem_cons_self
    refine va_put (ci := ci - 1) (v := .int (Int32.ofInt x)) (ty := .int) hx hb hts hin ty0 hty hnm hown hK hat.1 hat.2.1 hat.2.2 k (by rw [zW_get (by omega), zent_obj hk0, hk]) hc j hj (hts _ hw) (fun _ h9 => h9) hfin hft rfl rfl (by simpa using hjn) hd (fun H1 locs1 hP1 hD1 hS1 => ?_)
    rw [← hk, zent_put hk0 hz hjn] at hP1 hD1
    exact G H1 locs1 ls ⟨hP1, hD1, hS1⟩ hlh ⟨hwf.1, fun v hv => hwf.2.1 v (List.mem_cons_of_mem _ (List.mem_cons_of_mem _ hv)), zoks_up hwf.2.2 hxr⟩
  · cases h
theorem zS_putz {m pc ci j nx idx N : Nat} {C : String} {T : u_T} {ty0 : Nat → FieldType} (hd : decode (zmB m) pc = .ok (.putfield idx, 3)) (hn : nx = pc + 3) (h0 : ci ≠ 0) (hc : zcls[ci - 1]? = some (C, T, N)) (hj : j < N) (hnf : N = zNf ci) (hin : ∀ w ∈ u_ws C T N, w ∈ zWL) (hty : ∀ k, k < N → parseFieldDescriptor (T k).2.2.1 = some (ty0 k)) (hnm : ∀ a, a < N → ∀ b, b < N → a ≠ b → (T a).2.1 ≠ (T b).2.1) (hfin : (T j).2.2.2 = false) (hft : parseFieldDescriptor (T j).2.2.1 = some .boolean) (hw : Cond.fieldLink (zmY m).cls idx (T j).1 (T j).2.1 (T j).2.2.1 ∈ zWL) : zSnd m pc (o_putz ci j nx) := by
  subst hn
  intro p l e R s mid args below meth c A A0 D cI cQ Q C L st σ r h
  obtain ⟨hx, hb, hml, hr, hlk, hown, hts, hN, hK, hA, hf, hlo⟩ := C
  simp only [o_putz] at h
  split at h
  · rename_i x k st
    cases h1 : Nat.beq (zcl k) ci
    · rw [h1] at h; cases h
    cases h2 : Nat.beq (zfl k j) 0
    · rw [h1, h2] at h; cases h
    rw [h1, h2] at h
    have hk := Nat.eq_of_beq_eq_true h1
    have hz := Nat.eq_of_beq_eq_true h2
    have hk0 : zcl k ≠ 0 := by rw [hk]; exact h0
    have hk9 := zcl_lt hk0
    have hjn : j < znf k := by rw [znf_of hk, ← hnf]; exact hj
    dsimp only [cond, Bool.and] at h
    split at h
    case isFalse => cases h
    rename_i h01
    cases h
    intro G H locs ls hat hlh hwf
    have hxr : zr x := hwf.2.1 _ List.mem_cons_self
    refine va_put (ci := ci - 1) (v := .int (Int32.ofInt x)) (ty := .boolean) hx hb hts hin ty0 hty hnm hown hK hat.1 hat.2.1 hat.2.2 k (by rw [zW_get (by omega), zent_obj hk0, hk]) hc j hj (hts _ hw) (fun _ h9 => h9) hfin hft (by rcases h01 with q | q <;> rw [q] <;> rfl) (by rcases h01 with q | q <;> rw [q] <;> rfl) (by simpa using hjn) hd (fun H1 locs1 hP1 hD1 hS1 => ?_)
    rw [← hk, zent_put hk0 hz hjn] at hP1 hD1
    exact G H1 locs1 ls ⟨hP1, hD1, hS1⟩ hlh ⟨hwf.1, fun v hv => hwf.2.1 v (List.mem_cons_of_mem _ (List.mem_cons_of_mem _ hv)), zoks_up hwf.2.2 hxr⟩
  · cases h
theorem zS_getfN {m pc ci j nx idx N : Nat} {C : String} {T : u_T} (hd : decode (zmB m) pc = .ok (.getfield idx, 3)) (hn : nx = pc + 3) (h0 : ci ≠ 0) (hc : zcls[ci - 1]? = some (C, T, N)) (hj : j < N) (hnf : N = zNf ci) (hin : ∀ w ∈ u_ws C T N, w ∈ zWL) {host : String} (hw : Cond.fieldLinkNest (zmY m).cls idx (T j).1 (T j).2.1 (T j).2.2.1 host ∈ zNL) : zSnd m pc (o_getf ci j nx) := by
  subst hn
  intro p l e R s mid args below meth c A A0 D cI cQ Q C L st σ r h
  obtain ⟨hx, hb, hml, hr, hlk, hown, hts, hN, hK, hA, hf, hlo⟩ := C
  simp only [o_getf] at h
  split at h
  · rename_i k st
    cases h1 : Nat.beq (zcl k) ci
    · rw [h1] at h; cases h
    rw [h1] at h
    have hk := Nat.eq_of_beq_eq_true h1
    have hk0 : zcl k ≠ 0 := by rw [hk]; exact h0
    have hk9 := zcl_lt hk0
    have hjn : j < znf k := by rw [znf_of hk, ← hnf]; exact hj
    have key : ∀ (v : zVal) (H : Heap) (locs : List Loc) (ls : Array Slot), zv A v = zfv A σ k j → zAt A A0 D cI cQ s.heap H locs σ → W p l e R s mid args below meth c H locs 0 0 Q (F0 mid (pc + 3) ls (zv A v :: st.map (zv A))) → W p l e R s mid args below meth c H locs 0 0 Q (F0 mid pc ls (.ref (A k) :: st.map (zv A))) := by
      intro v H locs ls hv hat kk
      refine va_getN (ci := ci - 1) (v := zfv A σ k j) hx hb hts hin hown hK hat.1 k (by rw [zW_get (by omega), zent_obj hk0, hk]) hc j hj (va_Nw.use rfl (hN _ hw)) (fun _ h9 => h9) (zfs_at hjn) hd ?_
      rw [← hv]
      exact kk
    dsimp only [cond] at h
    split at h
    · rename_i hz
      cases h
      intro G H locs ls hat hlh hwf
      refine key (zI (σ k j)) H locs ls (by simp [zfv, hz, zv]) hat ?_
      exact G H locs ls hat hlh ⟨hwf.1, List.forall_mem_cons.mpr ⟨hwf.2.2 k j, fun v hv => hwf.2.1 v (List.mem_cons_of_mem _ hv)⟩, hwf.2.2⟩
    · rename_i q hz
      cases h
      intro G H locs ls hat hlh hwf
      refine key (zR q) H locs ls (by simp [zfv, hz, zv]) hat ?_
      exact G H locs ls hat hlh ⟨hwf.1, List.forall_mem_cons.mpr ⟨trivial, fun v hv => hwf.2.1 v (List.mem_cons_of_mem _ hv)⟩, hwf.2.2⟩
  · cases h
theorem zS_putfN {m pc ci j nx idx N : Nat} {C : String} {T : u_T} {ty0 : Nat → FieldType} (hd : decode (zmB m) pc = .ok (.putfield idx, 3)) (hn : nx = pc + 3) (h0 : ci ≠ 0) (hc : zcls[ci - 1]? = some (C, T, N)) (hj : j < N) (hnf : N = zNf ci) (hin : ∀ w ∈ u_ws C T N, w ∈ zWL) (hty : ∀ k, k < N → parseFieldDescriptor (T k).2.2.1 = some (ty0 k)) (hnm : ∀ a, a < N → ∀ b, b < N → a ≠ b → (T a).2.1 ≠ (T b).2.1) (hfin : (T j).2.2.2 = false) (hft : parseFieldDescriptor (T j).2.2.1 = some .int) {host : String} (hw : Cond.fieldLinkNest (zmY m).cls idx (T j).1 (T j).2.1 (T j).2.2.1 host ∈ zNL) : zSnd m pc (o_putf ci j nx) := by
  subst hn
  intro p l e R s mid args below meth c A A0 D cI cQ Q C L st σ r h
  obtain ⟨hx, hb, hml, hr, hlk, hown, hts, hN, hK, hA, hf, hlo⟩ := C
  simp only [o_putf] at h
  split at h
  · rename_i x k st
    cases h1 : Nat.beq (zcl k) ci
    · rw [h1] at h; cases h
    cases h2 : Nat.beq (zfl k j) 0
    · rw [h1, h2] at h; cases h
    rw [h1, h2] at h
    have hk := Nat.eq_of_beq_eq_true h1
    have hz := Nat.eq_of_beq_eq_true h2
    have hk0 : zcl k ≠ 0 := by rw [hk]; exact h0
    have hk9 := zcl_lt hk0
    have hjn : j < znf k := by rw [znf_of hk, ← hnf]; exact hj
    dsimp only [cond, Bool.and] at h
    cases h
    intro G H locs ls hat hlh hwf
    have hxr : zr x := hwf.2.1 _ List.mem_cons_self
    refine va_putN (ci := ci - 1) (v := .int (Int32.ofInt x)) (ty := .int) hx hb hts hin ty0 hty hnm hown hK hat.1 hat.2.1 hat.2.2 k (by rw [zW_get (by omega), zent_obj hk0, hk]) hc j hj (va_Nw.use rfl (hN _ hw)) (fun _ h9 => h9) hfin hft rfl rfl (by simpa using hjn) hd (fun H1 locs1 hP1 hD1 hS1 => ?_)
    rw [← hk, zent_put hk0 hz hjn] at hP1 hD1
    exact G H1 locs1 ls ⟨hP1, hD1, hS1⟩ hlh ⟨hwf.1, fun v hv => hwf.2.1 v (List.mem_cons_of_mem _ (List.mem_cons_of_mem _ hv)), zoks_up hwf.2.2 hxr⟩
  · cases h
theorem zS_putzN {m pc ci j nx idx N : Nat} {C : String} {T : u_T} {ty0 : Nat → FieldType} (hd : decode (zmB m) pc = .ok (.putfield idx, 3)) (hn : nx = pc + 3) (h0 : ci ≠ 0) (hc : zcls[ci - 1]? = some (C, T, N)) (hj : j < N) (hnf : N = zNf ci) (hin : ∀ w ∈ u_ws C T N, w ∈ zWL) (hty : ∀ k, k < N → parseFieldDescriptor (T k).2.2.1 = some (ty0 k)) (hnm : ∀ a, a < N → ∀ b, b < N → a ≠ b → (T a).2.1 ≠ (T b).2.1) (hfin : (T j).2.2.2 = false) (hft : parseFieldDescriptor (T j).2.2.1 = some .boolean) {host : String} (hw : Cond.fieldLinkNest (zmY m).cls idx (T j).1 (T j).2.1 (T j).2.2.1 host ∈ zNL) : zSnd m pc (o_putz ci j nx) := by
  subst hn
  intro p l e R s mid args below meth c A A0 D cI cQ Q C L st σ r h
  obtain ⟨hx, hb, hml, hr, hlk, hown, hts, hN, hK, hA, hf, hlo⟩ := C
  simp only [o_putz] at h
  split at h
  · rename_i x k st
    cases h1 : Nat.beq (zcl k) ci
    · rw [h1] at h; cases h
    cases h2 : Nat.beq (zfl k j) 0
    · rw [h1, h2] at h; cases h
    rw [h1, h2] at h
    have hk := Nat.eq_of_beq_eq_true h1
    have hz := Nat.eq_of_beq_eq_true h2
    have hk0 : zcl k ≠ 0 := by rw [hk]; exact h0
    have hk9 := zcl_lt hk0
    have hjn : j < znf k := by rw [znf_of hk, ← hnf]; exact hj
    dsimp only [cond, Bool.and] at h
    split at h
    case isFalse => cases h
    rename_i h01
    cases h
    intro G H locs ls hat hlh hwf
    have hxr : zr x := hwf.2.1 _ List.mem_cons_self
    refine va_putN (ci := ci - 1) (v := .int (Int32.ofInt x)) (ty := .boolean) hx hb hts hin ty0 hty hnm hown hK hat.1 hat.2.1 hat.2.2 k (by rw [zW_get (by omega), zent_obj hk0, hk]) hc j hj (va_Nw.use rfl (hN _ hw)) (fun _ h9 => h9) hfin hft (by rcases h01 with q | q <;> rw [q] <;> rfl) (by rcases h01 with q | q <;> rw [q] <;> rfl) (by simpa using hjn) hd (fun H1 locs1 hP1 hD1 hS1 => ?_)
    rw [← hk, zent_put hk0 hz hjn] at hP1 hD1
    exact G H1 locs1 ls ⟨hP1, hD1, hS1⟩ hlh ⟨hwf.1, fun v hv => hwf.2.1 v (List.mem_cons_of_mem _ (List.mem_cons_of_mem _ hv)), zoks_up hwf.2.2 hxr⟩
  · cases h
theorem zS_iald {m pc nx : Nat} (hd : decode (zmB m) pc = .ok (.iaload, 1)) (hn : nx = pc + 1) : zSnd m pc (o_iald nx) := by
  subst hn
  intro p l e R s mid args below meth c A A0 D cI cQ Q C L st σ r h
  obtain ⟨hx, hb, hml, hr, hlk, hown, hts, hN, hK, hA, hf, hlo⟩ := C
  simp only [o_iald] at h
  split at h
  · rename_i i k st
    split at h
    · rename_i hi
      cases h
      intro G H locs ls hat hlh hwf
      have hir : zr i := hwf.2.1 _ List.mem_cons_self
      obtain ⟨k1, k2, k3⟩ := zal_lt hi
      refine va_iald (cA := cI) (n := (zal k).toNat) (f := fun j => Int32.ofInt (σ k j)) hx hb hK hat.1 k 0 (by rw [zW_get k2, zent_row k1 k3]) rfl (zin hir hi) hd ?_
      rw [zof_cl hir]
      exact G H locs ls hat hlh ⟨hwf.1, List.forall_mem_cons.mpr ⟨hwf.2.2 k _, fun v hv => hwf.2.1 v (List.mem_cons_of_mem _ (List.mem_cons_of_mem _ hv))⟩, hwf.2.2⟩
    · cases h
  · cases h
theorem zent_st {A : Nat → Nat} {cI cQ : ClassId} {σ : zSt} {k j : Nat} {x : Int} (k1 : 10 ≤ k) (k2 : k < 69) (k3 : k ≠ 63) : (zW A cI cQ σ).set k (A k, .inl (cI, (zal k).toNat, .inl (upd (fun j => Int32.ofInt (σ k j)) j (Int32.ofInt x)))) = zW A cI cQ (zup σ k j x) := by
  refine zW_set k2 ?_ (fun i hi => zent_ne (fun j' => zup_ne hi j'))
  rw [zent_row k1 k3]
  congr 4
  funext q
  by_cases hq : q = j
  · subst hq
    simp [upd, zup]
  · simp [upd, zup, hq]
theorem zS_iast {m pc nx : Nat} (hd : decode (zmB m) pc = .ok (.iastore, 1)) (hn : nx = pc + 1) : zSnd m pc (o_iast nx) := by
  subst hn
  intro p l e R s mid args below meth c A A0 D cI cQ Q C L st σ r h
  obtain ⟨hx, hb, hml, hr, hlk, hown, hts, hN, hK, hA, hf, hlo⟩ := C
  simp only [o_iast] at h
  split at h
  · rename_i x i k st
    split at h
    · rename_i hi
      cases h
      intro G H locs ls hat hlh hwf
      have hxr : zr x := hwf.2.1 _ List.mem_cons_self
      have hir : zr i := hwf.2.1 _ (List.mem_cons_of_mem _ List.mem_cons_self)
      obtain ⟨k1, k2, k3⟩ := zal_lt hi
      refine va_iast (cA := cI) (n := (zal k).toNat) (f := fun j => Int32.ofInt (σ k j)) hx hb hK hat.1 hat.2.1 hat.2.2 k 0 (by rw [zW_get k2, zent_row k1 k3]) rfl (zin hir hi) hd (fun H1 locs1 hP1 hD1 hS1 => ?_)
      rw [zof_cl hir, zent_st k1 k2 k3] at hP1 hD1
      exact G H1 locs1 ls ⟨hP1, hD1, hS1⟩ hlh ⟨hwf.1, fun v hv => hwf.2.1 v (List.mem_cons_of_mem _ (List.mem_cons_of_mem _ (List.mem_cons_of_mem _ hv))), zoks_up hwf.2.2 hxr⟩
    · cases h
  · cases h
theorem zS_aald {m pc nx : Nat} (hd : decode (zmB m) pc = .ok (.aaload, 1)) (hn : nx = pc + 1) : zSnd m pc (o_aald nx) := by
  subst hn
  intro p l e R s mid args below meth c A A0 D cI cQ Q C L st σ r h
  obtain ⟨hx, hb, hml, hr, hlk, hown, hts, hN, hK, hA, hf, hlo⟩ := C
  simp only [o_aald] at h
  split at h
  · rename_i i k st
    cases h1 : Nat.beq k 63
    · rw [h1] at h; cases h
    rw [h1] at h
    have hk := Nat.eq_of_beq_eq_true h1
    subst hk
    dsimp only [cond] at h
    have key : ∀ (q : Nat) (H : Heap) (locs : List Loc) (ls : Array Slot), q < 4 → i = (q : Int) → zAt A A0 D cI cQ s.heap H locs σ → W p l e R s mid args below meth c H locs 0 0 Q (F0 mid (pc + 1) ls (.ref (A (3 + q)) :: st.map (zv A))) → W p l e R s mid args below meth c H locs 0 0 Q (F0 mid pc ls (.int (Int32.ofInt i) :: .ref (A 63) :: st.map (zv A))) := by
      intro q H locs ls hq hi hat kk
      have hir : zr i := by constructor <;> omega
      refine va_aldq (cA := cQ) (C := RX3) (n := 4) (f := fun i => some (A (3 + i))) hx hb hK hat.1 63 1 (by rw [zW_get (by decide)]; rfl) rfl ?_ hd ?_
      · have := zin (n := 4) hir ⟨by omega, by omega⟩
        exact this
      · rw [zof_cl hir, hi]
        exact kk
    have fin : ∀ q : Nat, q < 4 → i = (q : Int) → zG m p l e R s mid args below meth c A A0 D cI cQ Q (pc + 1, L, zR (3 + q) :: st, σ) → zG m p l e R s mid args below meth c A A0 D cI cQ Q (pc, L, zI i :: zR 63 :: st, σ) := by
      intro q hq hi G H locs ls hat hlh hwf
      refine key q H locs ls hq hi hat ?_
      exact G H locs ls hat hlh ⟨hwf.1, List.forall_mem_cons.mpr ⟨trivial, fun v hv => hwf.2.1 v (List.mem_cons_of_mem _ (List.mem_cons_of_mem _ hv))⟩, hwf.2.2⟩
    split at h
    · cases h; exact fin 0 (by decide) (by assumption)
    split at h
    · cases h; exact fin 1 (by decide) (by assumption)
    split at h
    · cases h; exact fin 2 (by decide) (by assumption)
    split at h
    · cases h; exact fin 3 (by decide) (by assumption)
    · cases h
  · cases h
theorem zcat_le {A : Nat → Nat} (st : List zVal) : ((st.map (zv A)).map fun v => v.category).sum ≤ 2 * st.length := by
  induction st with
  | nil => simp
  | cons v st ih =>
    have : (zv A v).category ≤ 2 := by rcases v with x | (k | x) <;> simp [zv, Value.category]
    simp only [List.map_cons, List.sum_cons, List.length_cons]
    omega
theorem zof_max {x y : Int} (hx : zr x) (hy : zr y) : (if Int32.ofInt x < Int32.ofInt y then Int32.ofInt y else Int32.ofInt x) = Int32.ofInt (max x y) := by
  by_cases h : x < y
  · rw [if_pos ((zof_lt hx hy).mpr h)]; congr 1; omega
  · rw [if_neg (fun q => h ((zof_lt hx hy).mp q))]; congr 1; omega
theorem zof_min {x y : Int} (hx : zr x) (hy : zr y) : (if Int32.ofInt y < Int32.ofInt x then Int32.ofInt y else Int32.ofInt x) = Int32.ofInt (min x y) := by
  by_cases h : y < x
  · rw [if_pos ((zof_lt hy hx).mpr h)]; congr 1; omega
  · rw [if_neg (fun q => h ((zof_lt hy hx).mp q))]; congr 1; omega
theorem zS_max {m pc nx idx : Nat} (hd : decode (zmB m) pc = .ok (.invokestatic idx, 3)) (hn : nx = pc + 3) (hl : Cond.methodLink (zmY m).cls idx Lib.Math.max.name ∈ zWL) (hst : Cond.static Lib.Math.max.name ∈ zWL) (hi : Cond.initialized "java/lang/Math" ∈ zWL) (hco : Cond.code Lib.Math.max.name Lib.Math.max.code 2 (some .int) ∈ zWL) (hh : 1 ≤ zmH m) : zSnd m pc (o_max nx) := by
  subst hn
  intro p l e R s mid args below meth c A A0 D cI cQ Q C L st σ r h
  obtain ⟨hx, hb, hml, hr, hlk, hown, hts, hN, hK, hA, hf, hlo⟩ := C
  simp only [o_max] at h
  split at h
  · rename_i y x st
    cases h1 : Nat.ble st.length 6
    · rw [h1] at h; cases h
    rw [h1] at h
    have hlen := Nat.le_of_ble_eq_true h1
    cases h
    intro G H locs ls hat hlh hwf
    have hyr : zr y := hwf.2.1 _ List.mem_cons_self
    have hxr : zr x := hwf.2.1 _ (List.mem_cons_of_mem _ List.mem_cons_self)
    have hcat := zcat_le (A := A) st
    refine va_mmax (rest := st.map (zv A)) hx hb (hml.trans hlh.2.1.symm) hown (hts _ hl) (hts _ hst) (hts _ hi) (hts _ hco) (by omega) (by omega) (Nat.zero_le _) (Nat.zero_le _) hd ?_
    rw [zof_max hxr hyr]
    exact G H locs ls hat hlh ⟨hwf.1, List.forall_mem_cons.mpr ⟨(by show zr _; constructor <;> omega), fun v hv => hwf.2.1 v (List.mem_cons_of_mem _ (List.mem_cons_of_mem _ hv))⟩, hwf.2.2⟩
  · cases h
theorem zS_min {m pc nx idx : Nat} (hd : decode (zmB m) pc = .ok (.invokestatic idx, 3)) (hn : nx = pc + 3) (hl : Cond.methodLink (zmY m).cls idx Lib.Math.min.name ∈ zWL) (hst : Cond.static Lib.Math.min.name ∈ zWL) (hi : Cond.initialized "java/lang/Math" ∈ zWL) (hco : Cond.code Lib.Math.min.name Lib.Math.min.code 2 (some .int) ∈ zWL) (hh : 1 ≤ zmH m) : zSnd m pc (o_min nx) := by
  subst hn
  intro p l e R s mid args below meth c A A0 D cI cQ Q C L st σ r h
  obtain ⟨hx, hb, hml, hr, hlk, hown, hts, hN, hK, hA, hf, hlo⟩ := C
  simp only [o_min] at h
  split at h
  · rename_i y x st
    cases h1 : Nat.ble st.length 6
    · rw [h1] at h; cases h
    rw [h1] at h
    have hlen := Nat.le_of_ble_eq_true h1
    cases h
    intro G H locs ls hat hlh hwf
    have hyr : zr y := hwf.2.1 _ List.mem_cons_self
    have hxr : zr x := hwf.2.1 _ (List.mem_cons_of_mem _ List.mem_cons_self)
    have hcat := zcat_le (A := A) st
    refine va_mmin (rest := st.map (zv A)) hx hb (hml.trans hlh.2.1.symm) hown (hts _ hl) (hts _ hst) (hts _ hi) (hts _ hco) (by omega) (by omega) (Nat.zero_le _) (Nat.zero_le _) hd ?_
    rw [zof_min hxr hyr]
    exact G H locs ls hat hlh ⟨hwf.1, List.forall_mem_cons.mpr ⟨(by show zr _; constructor <;> omega), fun v hv => hwf.2.1 v (List.mem_cons_of_mem _ (List.mem_cons_of_mem _ hv))⟩, hwf.2.2⟩
  · cases h
theorem zent_cp {A : Nat → Nat} {cI cQ : ClassId} {σ : zSt} {a d n : Nat} (k1 : 10 ≤ d) (k2 : d < 69) (k3 : d ≠ 63) : (zW A cI cQ σ).set d (A d, .inl (cI, (zal d).toNat, .inl (va_cpy (fun j => Int32.ofInt (σ a j)) (fun j => Int32.ofInt (σ d j)) 0 0 n))) = zW A cI cQ (zcp σ a d n) := by
  refine zW_set k2 ?_ (fun i hi => zent_ne (fun j' => by simp [zcp, hi]))
  rw [zent_row k1 k3]
  congr 4
  funext q
  by_cases hq : q < n
  · simp [zcp, hq, va_cpy]
  · simp [zcp, hq, va_cpy]
theorem zS_copy {m pc nx idx : Nat} (hd : decode (zmB m) pc = .ok (.invokestatic idx, 3)) (hn : nx = pc + 3) (hl : Cond.methodLink (zmY m).cls idx arraycopyName ∈ zWL) (hna : Cond.native arraycopyName ∈ zWL) (hst : Cond.static arraycopyName ∈ zWL) (hi : Cond.initialized "java/lang/System" ∈ zWL) (hh : 1 ≤ zmH m) : zSnd m pc (o_copy nx) := by
  subst hn
  intro p l e R s mid args below meth c A A0 D cI cQ Q C L st σ r h
  obtain ⟨hx, hb, hml, hr, hlk, hown, hts, hN, hK, hA, hf, hlo⟩ := C
  simp only [o_copy] at h
  split at h
  · rename_i n dp d sp a st
    split at h
    · rename_i hc
      obtain ⟨e1, e2, c3, c4, c5, c6⟩ := hc
      subst e1; subst e2; subst c6
      cases h
      intro G H locs ls hat hlh hwf
      have hnr : zr n := hwf.2.1 _ List.mem_cons_self
      · obtain ⟨a1, a2, a3⟩ := zal_lt (k := a) (i := 0) ⟨by omega, by omega⟩
        obtain ⟨d1, d2, d3⟩ := zal_lt (k := d) (i := 0) ⟨by omega, by omega⟩
        refine va_copyi (rest := []) (sp := 0) (dp := 0) (n := Int32.ofInt n) (ty := .int) (c0 := cI) (c1 := cI) (n0 := (zal a).toNat) (n1 := (zal d).toNat) (f := fun j => Int32.ofInt (σ a j)) (g := fun j => Int32.ofInt (σ d j)) hx hb (hml.trans hlh.2.1.symm) hown (hts _ hl) (hts _ hna) (hts _ hst) (hts _ hi) hK hat.1 hat.2.1 hat.2.2 a d 0 0 (by rw [zW_get a2, zent_row a1 a3]) (by rw [zW_get d2, zent_row d1 d3]) rfl rfl rfl (by decide) (by decide) (by rw [zof_lt0 hnr]; omega) (by rw [zof_cl hnr]; show 0 + _ ≤ _; omega) (by rw [zof_cl hnr]; show 0 + _ ≤ _; omega) (fun _ _ => rfl) (by omega) ?_ hd (fun H1 locs1 hP1 hD1 hS1 => ?_)
        · have e9 : nativeFrameWords "java/lang/System" "arraycopy" 5 ≤ 20 := by decide +kernel
          simp
          omega
        · rw [zof_cl hnr] at hP1 hD1
          have e0 : (0 : Int32).toNatClampNeg = 0 := rfl
          rw [e0, zent_cp d1 d2 d3] at hP1 hD1
          exact G H1 locs1 ls ⟨hP1, hD1, hS1⟩ hlh ⟨hwf.1, (fun v hv => by cases hv), zoks_cp hwf.2.2⟩
    · cases h
  · cases h
end
section
/-! ===== 09: rows for switches, ends and calls ===== -/
theorem zS_tsw {m pc d len n : Nat} {l : List (Int × Nat)} {dflt lo hi : Int} {offs : Array Int} (hd : decode (zmB m) pc = .ok (.tableswitch dflt lo hi offs, len)) (hi2 : hi = lo + n - 1) (hin : ∀ i : Nat, i < n → (offs[i]?.map (fun off => (pc : Int) + off)) = some ((zsw (lo + i) l d : Nat) : Int)) (hout : ∀ x : Int, (x < lo ∨ hi < x) → zsw x l d = d) (hdf : (pc : Int) + dflt = (d : Int)) : zSnd m pc (o_sw l d) := by
  intro p l e R s mid args below meth c A A0 D cI cQ Q C L st σ r h
  obtain ⟨hx, hb, hml, hr, hlk, hown, hts, hN, hK, hA, hf, hlo⟩ := C
  simp only [o_sw] at h
  split at h
  · rename_i x st
    cases h
    intro G H locs ls hat hlh hwf
    have hxr : zr x := hwf.2.1 _ List.mem_cons_self
    have hx2 := zto hxr
    have hw2 : ∀ v ∈ st, zok v := fun v hv => hwf.2.1 v (List.mem_cons_of_mem _ hv)
    by_cases h1 : x < lo ∨ hi < x
    · refine lv_tableOut hx hb hd (by rw [hx2]; exact h1) hdf ?_
      have e := hout x h1
      rw [e] at G
      exact G H locs ls hat hlh ⟨hwf.1, hw2, hwf.2.2⟩
    · have h2 : (x - lo).toNat < n := by omega
      have h3 := hin _ h2
      cases ho : offs[(x - lo).toNat]? with
      | none => rw [ho] at h3; cases h3
      | some off =>
        rw [ho] at h3
        have e : lo + ((x - lo).toNat : Int) = x := by omega
        rw [e] at h3
        refine lv_tableIn hx hb hd (by rw [hx2]; omega) (by rw [hx2]; omega) (by rw [hx2]; exact ho) (Option.some.inj h3) ?_
        exact G H locs ls hat hlh ⟨hwf.1, hw2, hwf.2.2⟩
  · cases h
theorem zS_lsw {m pc d len : Nat} {l : List (Int × Nat)} {dflt : Int} {ps : Array (Int × Int)} (hd : decode (zmB m) pc = .ok (.lookupswitch dflt ps, len)) (hp : (ps.toList.zip (ps.toList.drop 1)).all (fun (a, next) => a.1 < next.1) = true) (hof : ∀ x : Int, (pc : Int) + Op.lookupswitch.offset ps.toList dflt x = ((zsw x l d : Nat) : Int)) : zSnd m pc (o_sw l d) := by
  intro p l e R s mid args below meth c A A0 D cI cQ Q C L st σ r h
  obtain ⟨hx, hb, hml, hr, hlk, hown, hts, hN, hK, hA, hf, hlo⟩ := C
  simp only [o_sw] at h
  split at h
  · rename_i x st
    cases h
    intro G H locs ls hat hlh hwf
    have hxr : zr x := hwf.2.1 _ List.mem_cons_self
    have hx2 := zto hxr
    have hw2 : ∀ v ∈ st, zok v := fun v hv => hwf.2.1 v (List.mem_cons_of_mem _ hv)
    refine lv_lookup hx hb hd hp rfl (by rw [hx2]; exact hof x) ?_
    exact G H locs ls hat hlh ⟨hwf.1, hw2, hwf.2.2⟩
  · cases h
theorem zS_ret {m pc : Nat} (hd : decode (zmB m) pc = .ok (.return_, 1)) (hr0 : zmR m = none) : zSnd m pc o_ret := by
  intro p l e R s mid args below meth c A A0 D cI cQ Q C L st σ r h
  obtain ⟨hx, hb, hml, hr, hlk, hown, hts, hN, hK, hA, hf, hlo⟩ := C
  simp only [o_ret] at h
  split at h
  · cases h
    exact ⟨rfl, rfl, hr0, hd⟩
  · cases h
theorem zS_iret {m pc : Nat} (hd : decode (zmB m) pc = .ok (.ireturn, 1)) (hr0 : zmR m = some .int) : zSnd m pc o_iret := by
  intro p l e R s mid args below meth c A A0 D cI cQ Q C L st σ r h
  obtain ⟨hx, hb, hml, hr, hlk, hown, hts, hN, hK, hA, hf, hlo⟩ := C
  simp only [o_iret] at h
  split at h
  · cases h
    exact ⟨rfl, rfl, Or.inl hr0, hd⟩
  · cases h
theorem zS_zret {m pc : Nat} (hd : decode (zmB m) pc = .ok (.ireturn, 1)) (hr0 : zmR m = some .boolean) : zSnd m pc o_zret := by
  intro p l e R s mid args below meth c A A0 D cI cQ Q C L st σ r h
  obtain ⟨hx, hb, hml, hr, hlk, hown, hts, hN, hK, hA, hf, hlo⟩ := C
  simp only [o_zret] at h
  split at h
  · split at h
    · rename_i h01
      cases h
      exact ⟨rfl, rfl, Or.inr ⟨hr0, h01⟩, hd⟩
    · cases h
  · cases h
theorem zS_lret {m pc : Nat} (hd : decode (zmB m) pc = .ok (.lreturn, 1)) (hr0 : zmR m = some .long) : zSnd m pc o_lret := by
  intro p l e R s mid args below meth c A A0 D cI cQ Q C L st σ r h
  obtain ⟨hx, hb, hml, hr, hlk, hown, hts, hN, hK, hA, hf, hlo⟩ := C
  simp only [o_lret] at h
  split at h
  · cases h
    exact ⟨rfl, rfl, hr0, hd⟩
  · cases h
theorem zS_thr {m pc k : Nat} : zSnd m pc (o_thr k) := by
  intro p l e R s mid args below meth c A A0 D cI cQ Q C L st σ r h
  obtain ⟨hx, hb, hml, hr, hlk, hown, hts, hN, hK, hA, hf, hlo⟩ := C
  simp only [o_thr] at h
  split at h
  · cases h
    rfl
  · cases h
theorem zgood {w : Cond} (h : w ∈ zWL) : w ∈ zWL ∧ ((w.onTables && w.keeps) = true ∨ ∃ ty, w = .arrayClass ty) := ⟨h, good_of_word (List.mem_filter.mp h).2⟩
theorem zGoodIn {m : Nat} (h : zMok m) : GoodIn zWL (zmW m) := by
  intro w hw
  rcases List.mem_cons.mp hw with e | hw
  · subst e; exact zgood h.1.1
  · exact zgood hw
theorem zblind {as : List Value} {D : va_G} {A : Nat → Nat} {cI cQ : ClassId} {sz : Nat} {σ : zSt} : FrameBlind (va_Pc as (zPre D A cI cQ sz σ)) := by
  intro a U g mk q
  obtain ⟨q0, q1, qP, qK, qD, qN⟩ := q
  exact ⟨q0, q1, qP, va_K.moved (u := U) (U := U.calling g mk a) (Vm.Alike.refl U.vm) qK, qD, zNst_same (u := U) (U := U.calling g mk a) rfl qN⟩
theorem zrk_list {rk : Nat} {v : Option zVal} {vs : List zVal} (h : zrk rk v = some vs) : vs = v.toList := by
  unfold zrk at h
  split at h <;> first | (cases h; rfl) | cases h
section ZCALL
variable {p : Program} {l : Launch} {e : Env} {R : Room} {s : State} {mid : MethodId} {args : Array Value} {below : List Frame} {meth : Method} {c : Code} {H : Heap} {locs : List Loc} {Q : State → Prop}
theorem zfree {A : Nat → Nat} {A0 : Nat → Prop} {D : va_G} {cI cQ : ClassId} {σ : zSt} {H0 : Heap} (hat : zAt A A0 D cI cQ H0 H locs σ) (hA : ∀ q : Nat, H0.size ≤ q → A0 q) : ∀ q, va_A (zW A cI cQ σ) H.size q → A0 q := by
  intro q h
  rcases h with ⟨k, e, h⟩ | h
  · exact hat.2.1.2 k (q, e) h
  · exact hA q (Nat.le_trans hat.2.2.1 h)
theorem zcall_go {A : Nat → Nat} {A0 : Nat → Prop} {D : va_G} {cI cQ : ClassId} {σ σ1 : zSt} {v : Option zVal} {pc : Nat} {ls : Array Slot} {st0 rest : List Value} {av : Array Value}
    (hr : va_Run p l e R s mid args below meth c H locs 0 0 0 0 (F0 mid pc ls st0) rest (zPost D A cI cQ H.size σ v σ1 av) (va_A (zW A cI cQ σ) H.size)) (hat : zAt A A0 D cI cQ s.heap H locs σ) (hA : ∀ q : Nat, s.heap.size ≤ q → A0 q)
    (kk : ∀ (H1 : Heap) (locs1 : List Loc), zAt A A0 D cI cQ s.heap H1 locs1 σ1 → zoks σ1 → (∀ x ∈ v.toList, zok x) → W p l e R s mid args below meth c H1 locs1 0 0 Q (F0 mid (pc + 3) ls ((v.map (zv A)).toList ++ rest))) : W p l e R s mid args below meth c H locs 0 0 Q (F0 mid pc ls st0) := by
  have hF := zfree hat hA
  obtain ⟨hP0, hD0, hS⟩ := hat
  intro T hT X
  obtain ⟨v', st₀, t, T', L, h0, X', hL, e1, e2, ⟨⟨hv, hP, hD, hok, hvo⟩, hz, hk⟩, st⟩ := hr T hT X
  cases hv
  rw [h0] at hz hk
  obtain ⟨t2, a1, b1⟩ := kk T'.heap (locs ++ L) ⟨by rw [e1]; exact hP, hD.weaken (fun _ _ _ h => hF _ h),
    ⟨Nat.le_trans hS.1 (by rw [e1]; exact hz), fun q h1 h2 => by rw [e1, hk q (Nat.lt_of_lt_of_le h1 hS.1) (fun z => h2 (hF q z))]; exact hS.2.1 q h1 h2, fun q hq => by
      rcases List.mem_append.mp hq with h | h
      · exact hS.2.2 q h
      · exact hF _ (hL q h)⟩⟩ hok hvo T' rfl X'
  exact ⟨t2, st t2 a1, b1⟩
theorem zpre {A : Nat → Nat} {A0 : Nat → Prop} {D : va_G} {cI cQ : ClassId} {σ : zSt} (hat : zAt A A0 D cI cQ s.heap H locs σ) (hK : va_K D zcls (ztys cI cQ) s) (hN : zNst s) (as : List Value) : ∀ U : State, U.heap = H → s.WarmedH U.vm → va_Pc as (zPre D A cI cQ H.size σ) as.toArray U := by
  intro U hU hW
  exact ⟨rfl, by rw [hU], by rw [hU]; exact hat.1, va_K.moved hW.alike hK, hat.2.1.weaken (fun _ _ _ _ => trivial), zNst_warm hW hN⟩
end ZCALL
theorem zS_callS {m pc m' n nl rk nx idx : Nat} (hd : decode (zmB m) pc = .ok (.invokestatic idx, 3)) (hn : nx = pc + 3) (hw : Cond.methodLink (zmY m).cls idx (zmY m') ∈ zWL) (hst : Cond.static (zmY m') ∈ zWL) (hnl : nl = zmX m') (hM : zMok m') (hpn : (parseMethodDescriptor (zmY m').desc).map (fun d => d.parameters.length) = some n) (hh : zmH m' + 1 ≤ zmH m) (hlc : 19 + zmX m' + 32 * zmH m' ≤ 32 * zmH m) : zSnd m pc (o_call m' n nl rk nx) := by
  subst hn
  intro p l e R s mid args below meth c A A0 D cI cQ Q C L st σ r h
  obtain ⟨hx, hb, hml, hr, hlk, hown, hts, hN, hK, hA, hf, hlo⟩ := C
  simp only [o_call] at h
  cases h1 : Nat.ble n st.length
  · rw [h1] at h; cases h
  cases h2 : Nat.ble (st.drop n).length 4
  · rw [h1, h2] at h; cases h
  cases h3 : Nat.ble (zlay (st.take n).reverse).length nl
  · rw [h1, h2, h3] at h; cases h
  rw [h1, h2, h3] at h
  have hn3 := Nat.le_of_ble_eq_true h3
  have hn1 := Nat.le_of_ble_eq_true h1
  have hn2 := Nat.le_of_ble_eq_true h2
  cases h
  refine ⟨hnl, hn3, hM, rfl, fun a ha => List.mem_of_mem_take (List.mem_reverse.mp ha), ?_⟩
  intro v σ1 vs hcon hrk G H locs ls hat hlh hwf
  have hvl := zrk_list hrk
  subst hvl
  have hcat := zcat_le (A := A) (st.drop n)
  have hstk : st.map (zv A) = (((st.take n).reverse).map (zv A)).reverse ++ (st.drop n).map (zv A) := by
    rw [List.map_reverse, List.reverse_reverse, ← List.map_append, List.take_append_drop]
  refine zcall_go (rest := (st.drop n).map (zv A)) (va_runS (As := ((st.take n).reverse).map (zv A)) (rest := (st.drop n).map (zv A)) ⟨hx, hb, hml, hown, hts⟩ (hcon D A cI cQ H.size) ⟨callB_of (ret := zmR m') n hts (zGoodIn hM) rfl rfl rfl (hts _ hM.1.2) (hts _ hw) ⟨hM.2.2.1, hM.2.2.2, hpn⟩ ⟨by show zmH m' + 1 ≤ _; omega, by show 8 + (zmX m' + 11) + 32 * zmH m' ≤ _; omega⟩, hts _ hst⟩ ⟨zblind, zpre hat hK hN _⟩ rfl (by simp; omega) hlh.2.1 hstk (lv_room (by omega)) hd ⟨Nat.zero_le _, Nat.zero_le _⟩) hat hA (fun H1 locs1 hat1 hσ1 hvs => ?_)
  have h9 := G H1 locs1 ls hat1 hlh ⟨hwf.1, fun x hx => by
    rcases List.mem_append.mp hx with q | q
    · exact hvs x q
    · exact hwf.2.1 x (List.mem_of_mem_drop q), hσ1⟩
  have e9 : (v.toList ++ st.drop n).map (zv A) = (v.map (zv A)).toList ++ (st.drop n).map (zv A) := by
    cases v <;> simp
  rw [← e9]
  exact h9
theorem zS_callV {m pc ci m' n n1 nl rk nx idx N : Nat} {C : String} {T : u_T} (hd : decode (zmB m) pc = .ok (.invokevirtual idx, 3)) (hn : nx = pc + 3) (hn1 : n1 = n + 1) (h0 : ci ≠ 0) (hc : zcls[ci - 1]? = some (C, T, N)) (hw : Cond.methodLink (zmY m).cls idx (zmY m') ∈ zWL) (hin : Cond.instanceMethod (zmY m') ∈ zWL) (hse : Cond.selects C (zmY m') (zmY m') ∈ zWL) (hnl : nl = zmX m') (hM : zMok m') (hpn : (parseMethodDescriptor (zmY m').desc).map (fun d => d.parameters.length) = some n) (hh : zmH m' + 1 ≤ zmH m) (hlc : 19 + zmX m' + 32 * zmH m' ≤ 32 * zmH m) : zSnd m pc (o_callv ci m' n1 nl rk nx) := by
  subst hn
  subst hn1
  intro p l e R s mid args below meth c A A0 D cI cQ Q C L st σ r h
  obtain ⟨hx, hb, hml, hr, hlk, hown, hts, hN, hK, hA, hf, hlo⟩ := C
  simp only [o_callv] at h
  split at h
  case h_2 => cases h
  rename_i k as has
  cases h0 : Nat.beq (zcl k) ci
  · rw [h0] at h; cases h
  cases h1 : Nat.ble (n + 1) st.length
  · rw [h0, h1] at h; cases h
  cases h2 : Nat.ble (st.drop (n + 1)).length 4
  · rw [h0, h1, h2] at h; cases h
  cases h3 : Nat.ble (zlay (zR k :: as)).length nl
  · rw [h0, h1, h2, h3] at h; cases h
  rw [h0, h1, h2, h3] at h
  have hn3 := Nat.le_of_ble_eq_true h3
  have hk := Nat.eq_of_beq_eq_true h0
  have hn1 := Nat.le_of_ble_eq_true h1
  have hn2 := Nat.le_of_ble_eq_true h2
  have hk0 : zcl k ≠ 0 := by rw [hk]; assumption
  have hk9 := zcl_lt hk0
  cases h
  refine ⟨hnl, hn3, hM, rfl, fun a ha => List.mem_of_mem_take (List.mem_reverse.mp (by rw [has]; exact ha)), ?_⟩
  intro v σ1 vs hcon hrk G H locs ls hat hlh hwf
  have hvl := zrk_list hrk
  subst hvl
  have hcat := zcat_le (A := A) (st.drop (n + 1))
  have htk : st.take (n + 1) = as.reverse ++ [zR k] := by
    have := congrArg List.reverse has
    simpa using this
  have hal : as.length = n := by
    have := congrArg List.length htk
    simp at this
    omega
  have hstk : st.map (zv A) = (as.map (zv A)).reverse ++ .ref (A k) :: (st.drop (n + 1)).map (zv A) := by
    conv => lhs; rw [← List.take_append_drop (n + 1) st]
    rw [htk]
    simp [zv]
  refine zcall_go (rest := (st.drop (n + 1)).map (zv A)) (va_runV (C := C) (b := A k) (As := as.map (zv A)) (rest := (st.drop (n + 1)).map (zv A)) ⟨hx, hb, hml, hown, hts⟩ (hcon D A cI cQ H.size) ⟨callB_of (ret := zmR m') n hts (zGoodIn hM) rfl rfl rfl (hts _ hM.1.2) (hts _ hw) ⟨hM.2.2.1, hM.2.2.2, hpn⟩ ⟨by show zmH m' + 1 ≤ _; omega, by show 8 + (zmX m' + 11) + 32 * zmH m' ≤ _; omega⟩, hts _ hin, hts _ hse⟩ ⟨zblind, va_recv hK hat.1 (ci := ci - 1) (q0 := k) hc (by rw [zW_get (by omega), zent_obj hk0, hk]), zpre hat hK hN (.ref (A k) :: as.map (zv A))⟩ rfl (by simp [hal]) hlh.2.1 hstk (lv_room (by omega)) hd ⟨Nat.zero_le _, Nat.zero_le _⟩) hat hA (fun H1 locs1 hat1 hσ1 hvs => ?_)
  have h9 := G H1 locs1 ls hat1 hlh ⟨hwf.1, fun x hx => by
    rcases List.mem_append.mp hx with q | q
    · exact hvs x q
    · exact hwf.2.1 x (List.mem_of_mem_drop q), hσ1⟩
  have e9 : (v.toList ++ st.drop (n + 1)).map (zv A) = (v.map (zv A)).toList ++ (st.drop (n + 1)).map (zv A) := by
    cases v <;> simp
  rw [← e9]
  exact h9
theorem zS_callSN {m pc m' n nl rk nx idx : Nat} (hd : decode (zmB m) pc = .ok (.invokestatic idx, 3)) (hn : nx = pc + 3) {host : String} (hw : Cond.methodLinkNest (zmY m).cls idx (zmY m') host ∈ zNL) (hst : Cond.static (zmY m') ∈ zWL) (hnl : nl = zmX m') (hM : zMok m') (hpn : (parseMethodDescriptor (zmY m').desc).map (fun d => d.parameters.length) = some n) (hh : zmH m' + 1 ≤ zmH m) (hlc : 19 + zmX m' + 32 * zmH m' ≤ 32 * zmH m) : zSnd m pc (o_call m' n nl rk nx) := by
  subst hn
  intro p l e R s mid args below meth c A A0 D cI cQ Q C L st σ r h
  obtain ⟨hx, hb, hml, hr, hlk, hown, hts, hN, hK, hA, hf, hlo⟩ := C
  simp only [o_call] at h
  cases h1 : Nat.ble n st.length
  · rw [h1] at h; cases h
  cases h2 : Nat.ble (st.drop n).length 4
  · rw [h1, h2] at h; cases h
  cases h3 : Nat.ble (zlay (st.take n).reverse).length nl
  · rw [h1, h2, h3] at h; cases h
  rw [h1, h2, h3] at h
  have hn3 := Nat.le_of_ble_eq_true h3
  have hn1 := Nat.le_of_ble_eq_true h1
  have hn2 := Nat.le_of_ble_eq_true h2
  cases h
  refine ⟨hnl, hn3, hM, rfl, fun a ha => List.mem_of_mem_take (List.mem_reverse.mp ha), ?_⟩
  intro v σ1 vs hcon hrk G H locs ls hat hlh hwf
  have hvl := zrk_list hrk
  subst hvl
  have hcat := zcat_le (A := A) (st.drop n)
  have hstk : st.map (zv A) = (((st.take n).reverse).map (zv A)).reverse ++ (st.drop n).map (zv A) := by
    rw [List.map_reverse, List.reverse_reverse, ← List.map_append, List.take_append_drop]
  refine zcall_go (rest := (st.drop n).map (zv A)) (va_runSN (As := ((st.take n).reverse).map (zv A)) (rest := (st.drop n).map (zv A)) ⟨hx, hb, hml, hown, hts⟩ (hcon D A cI cQ H.size) ⟨va_cnB (ret := zmR m') n hts (zGoodIn hM) rfl rfl rfl (hN _ hw) (hts _ hM.1.2) ⟨hM.2.2.1, hM.2.2.2, hpn⟩ ⟨by show zmH m' + 1 ≤ _; omega, by show 8 + (zmX m' + 11) + 32 * zmH m' ≤ _; omega⟩, hts _ hst, trivial⟩ ⟨zblind, zpre hat hK hN _⟩ rfl (by simp; omega) hlh.2.1 hstk (lv_room (by omega)) hd ⟨Nat.zero_le _, Nat.zero_le _⟩) hat hA (fun H1 locs1 hat1 hσ1 hvs => ?_)
  have h9 := G H1 locs1 ls hat1 hlh ⟨hwf.1, fun x hx => by
    rcases List.mem_append.mp hx with q | q
    · exact hvs x q
    · exact hwf.2.1 x (List.mem_of_mem_drop q), hσ1⟩
  have e9 : (v.toList ++ st.drop n).map (zv A) = (v.map (zv A)).toList ++ (st.drop n).map (zv A) := by
    cases v <;> simp
  rw [← e9]
  exact h9
theorem zS_callVN {m pc ci m' n n1 nl rk nx idx N : Nat} {C : String} {T : u_T} (hd : decode (zmB m) pc = .ok (.invokevirtual idx, 3)) (hn : nx = pc + 3) (hn1 : n1 = n + 1) (h0 : ci ≠ 0) (hc : zcls[ci - 1]? = some (C, T, N)) {host : String} (hw : Cond.methodLinkNest (zmY m).cls idx (zmY m') host ∈ zNL) (hin : Cond.instanceMethod (zmY m') ∈ zWL) (hse : Cond.selects C (zmY m') (zmY m') ∈ zWL) (hnl : nl = zmX m') (hM : zMok m') (hpn : (parseMethodDescriptor (zmY m').desc).map (fun d => d.parameters.length) = some n) (hh : zmH m' + 1 ≤ zmH m) (hlc : 19 + zmX m' + 32 * zmH m' ≤ 32 * zmH m) : zSnd m pc (o_callv ci m' n1 nl rk nx) := by
  subst hn
  subst hn1
  intro p l e R s mid args below meth c A A0 D cI cQ Q C L st σ r h
  obtain ⟨hx, hb, hml, hr, hlk, hown, hts, hN, hK, hA, hf, hlo⟩ := C
  simp only [o_callv] at h
  split at h
  case h_2 => cases h
  rename_i k as has
  cases h0 : Nat.beq (zcl k) ci
  · rw [h0] at h; cases h
  cases h1 : Nat.ble (n + 1) st.length
  · rw [h0, h1] at h; cases h
  cases h2 : Nat.ble (st.drop (n + 1)).length 4
  · rw [h0, h1, h2] at h; cases h
  cases h3 : Nat.ble (zlay (zR k :: as)).length nl
  · rw [h0, h1, h2, h3] at h; cases h
  rw [h0, h1, h2, h3] at h
  have hn3 := Nat.le_of_ble_eq_true h3
  have hk := Nat.eq_of_beq_eq_true h0
  have hn1 := Nat.le_of_ble_eq_true h1
  have hn2 := Nat.le_of_ble_eq_true h2
  have hk0 : zcl k ≠ 0 := by rw [hk]; assumption
  have hk9 := zcl_lt hk0
  cases h
  refine ⟨hnl, hn3, hM, rfl, fun a ha => List.mem_of_mem_take (List.mem_reverse.mp (by rw [has]; exact ha)), ?_⟩
  intro v σ1 vs hcon hrk G H locs ls hat hlh hwf
  have hvl := zrk_list hrk
  subst hvl
  have hcat := zcat_le (A := A) (st.drop (n + 1))
  have htk : st.take (n + 1) = as.reverse ++ [zR k] := by
    have := congrArg List.reverse has
    simpa using this
  have hal : as.length = n := by
    have := congrArg List.length htk
    simp at this
    omega
  have hstk : st.map (zv A) = (as.map (zv A)).reverse ++ .ref (A k) :: (st.drop (n + 1)).map (zv A) := by
    conv => lhs; rw [← List.take_append_drop (n + 1) st]
    rw [htk]
    simp [zv]
  refine zcall_go (rest := (st.drop (n + 1)).map (zv A)) (va_runVN (C := C) (b := A k) (As := as.map (zv A)) (rest := (st.drop (n + 1)).map (zv A)) ⟨hx, hb, hml, hown, hts⟩ (hcon D A cI cQ H.size) ⟨va_cnB (ret := zmR m') n hts (zGoodIn hM) rfl rfl rfl (hN _ hw) (hts _ hM.1.2) ⟨hM.2.2.1, hM.2.2.2, hpn⟩ ⟨by show zmH m' + 1 ≤ _; omega, by show 8 + (zmX m' + 11) + 32 * zmH m' ≤ _; omega⟩, hts _ hin, hts _ hse⟩ ⟨zblind, va_recv hK hat.1 (ci := ci - 1) (q0 := k) hc (by rw [zW_get (by omega), zent_obj hk0, hk]), zpre hat hK hN (.ref (A k) :: as.map (zv A))⟩ rfl (by simp [hal]) hlh.2.1 hstk (lv_room (by omega)) hd ⟨Nat.zero_le _, Nat.zero_le _⟩) hat hA (fun H1 locs1 hat1 hσ1 hvs => ?_)
  have h9 := G H1 locs1 ls hat1 hlh ⟨hwf.1, fun x hx => by
    rcases List.mem_append.mp hx with q | q
    · exact hvs x q
    · exact hwf.2.1 x (List.mem_of_mem_drop q), hσ1⟩
  have e9 : (v.toList ++ st.drop (n + 1)).map (zv A) = (v.map (zv A)).toList ++ (st.drop (n + 1)).map (zv A) := by
    cases v <;> simp
  rw [← e9]
  exact h9
end
