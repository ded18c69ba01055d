section
-- ===== PART A: goes FIRST, ahead of the names: the tables' words, and 'selects' of the private methods out of them =====
/-- a private method of a class that the tables say can be made, by its rows of tables_1 -/
def lw_okq (q : MethodName × Nat) : Prop := (q.1.cls ≠ "java/lang/invoke/MethodHandle" ∧ q.1.cls ≠ "java/lang/invoke/VarHandle") ∧ Cond.instantiable q.1.cls q.2 ∈ tables_1 ∧ Cond.privateMethod q.1 ∈ tables_1 ∧ Cond.instanceMethod q.1 ∈ tables_1
theorem lw_p0 : lw_okq (⟨"QuarrelSauce", "found", "(I)I"⟩, 7) := ⟨⟨by decide +kernel, by decide +kernel⟩, List.mem_of_getElem? (i := 16) (by decide +kernel), List.mem_of_getElem? (i := 188) (by decide +kernel), List.mem_of_getElem? (i := 189) (by decide +kernel)⟩
theorem lw_p1 : lw_okq (⟨"QuarrelSauce$Kitchen", "addDish", "(I)LQuarrelSauce$Dish;"⟩, 9) := ⟨⟨by decide +kernel, by decide +kernel⟩, List.mem_of_getElem? (i := 24) (by decide +kernel), List.mem_of_getElem? (i := 214) (by decide +kernel), List.mem_of_getElem? (i := 215) (by decide +kernel)⟩
theorem lw_p2 : lw_okq (⟨"QuarrelSauce$Dish", "renew", "(I)V"⟩, 6) := ⟨⟨by decide +kernel, by decide +kernel⟩, List.mem_of_getElem? (i := 34) (by decide +kernel), List.mem_of_getElem? (i := 218) (by decide +kernel), List.mem_of_getElem? (i := 219) (by decide +kernel)⟩
theorem lw_p3 : lw_okq (⟨"QuarrelSauce", "isDish", "(I)Z"⟩, 7) := ⟨⟨by decide +kernel, by decide +kernel⟩, List.mem_of_getElem? (i := 16) (by decide +kernel), List.mem_of_getElem? (i := 226) (by decide +kernel), List.mem_of_getElem? (i := 227) (by decide +kernel)⟩
theorem lw_p4 : lw_okq (⟨"QuarrelSauce$Kitchen", "told", "(II)I"⟩, 9) := ⟨⟨by decide +kernel, by decide +kernel⟩, List.mem_of_getElem? (i := 24) (by decide +kernel), List.mem_of_getElem? (i := 230) (by decide +kernel), List.mem_of_getElem? (i := 231) (by decide +kernel)⟩
theorem lw_p5 : lw_okq (⟨"QuarrelSauce$Dish", "needs", "(I)I"⟩, 6) := ⟨⟨by decide +kernel, by decide +kernel⟩, List.mem_of_getElem? (i := 34) (by decide +kernel), List.mem_of_getElem? (i := 234) (by decide +kernel), List.mem_of_getElem? (i := 235) (by decide +kernel)⟩
theorem lw_p6 : lw_okq (⟨"QuarrelSauce$Kitchen", "deedNow", "()I"⟩, 9) := ⟨⟨by decide +kernel, by decide +kernel⟩, List.mem_of_getElem? (i := 24) (by decide +kernel), List.mem_of_getElem? (i := 238) (by decide +kernel), List.mem_of_getElem? (i := 239) (by decide +kernel)⟩
theorem lw_p7 : lw_okq (⟨"QuarrelSauce$Dish", "thickens", "(III)I"⟩, 6) := ⟨⟨by decide +kernel, by decide +kernel⟩, List.mem_of_getElem? (i := 34) (by decide +kernel), List.mem_of_getElem? (i := 242) (by decide +kernel), List.mem_of_getElem? (i := 243) (by decide +kernel)⟩
theorem lw_p8 : lw_okq (⟨"QuarrelSauce$Dish", "salts", "(I)I"⟩, 6) := ⟨⟨by decide +kernel, by decide +kernel⟩, List.mem_of_getElem? (i := 34) (by decide +kernel), List.mem_of_getElem? (i := 246) (by decide +kernel), List.mem_of_getElem? (i := 247) (by decide +kernel)⟩
theorem lw_p9 : lw_okq (⟨"QuarrelSauce$Dish", "burns", "()I"⟩, 6) := ⟨⟨by decide +kernel, by decide +kernel⟩, List.mem_of_getElem? (i := 34) (by decide +kernel), List.mem_of_getElem? (i := 250) (by decide +kernel), List.mem_of_getElem? (i := 251) (by decide +kernel)⟩
theorem lw_p10 : lw_okq (⟨"QuarrelSauce$Dish", "gives", "(I)I"⟩, 6) := ⟨⟨by decide +kernel, by decide +kernel⟩, List.mem_of_getElem? (i := 34) (by decide +kernel), List.mem_of_getElem? (i := 254) (by decide +kernel), List.mem_of_getElem? (i := 255) (by decide +kernel)⟩
theorem lw_p11 : lw_okq (⟨"QuarrelSauce$Dish", "put", "(II)V"⟩, 6) := ⟨⟨by decide +kernel, by decide +kernel⟩, List.mem_of_getElem? (i := 34) (by decide +kernel), List.mem_of_getElem? (i := 271) (by decide +kernel), List.mem_of_getElem? (i := 272) (by decide +kernel)⟩
theorem lw_p12 : lw_okq (⟨"QuarrelSauce$Kitchen", "serveDish", "(I)I"⟩, 9) := ⟨⟨by decide +kernel, by decide +kernel⟩, List.mem_of_getElem? (i := 24) (by decide +kernel), List.mem_of_getElem? (i := 279) (by decide +kernel), List.mem_of_getElem? (i := 280) (by decide +kernel)⟩
theorem lw_p13 : lw_okq (⟨"QuarrelSauce$Kitchen", "given", "(I)I"⟩, 9) := ⟨⟨by decide +kernel, by decide +kernel⟩, List.mem_of_getElem? (i := 24) (by decide +kernel), List.mem_of_getElem? (i := 283) (by decide +kernel), List.mem_of_getElem? (i := 284) (by decide +kernel)⟩
theorem lw_p14 : lw_okq (⟨"QuarrelSauce$Dish", "startAnew", "()V"⟩, 6) := ⟨⟨by decide +kernel, by decide +kernel⟩, List.mem_of_getElem? (i := 34) (by decide +kernel), List.mem_of_getElem? (i := 291) (by decide +kernel), List.mem_of_getElem? (i := 292) (by decide +kernel)⟩
theorem lw_p15 : lw_okq (⟨"QuarrelSauce$Kitchen", "passSteps", "(I)V"⟩, 9) := ⟨⟨by decide +kernel, by decide +kernel⟩, List.mem_of_getElem? (i := 24) (by decide +kernel), List.mem_of_getElem? (i := 312) (by decide +kernel), List.mem_of_getElem? (i := 313) (by decide +kernel)⟩
def lw_privs_1 : List (MethodName × Nat) := [(⟨"QuarrelSauce", "found", "(I)I"⟩, 7), (⟨"QuarrelSauce$Kitchen", "addDish", "(I)LQuarrelSauce$Dish;"⟩, 9), (⟨"QuarrelSauce$Dish", "renew", "(I)V"⟩, 6), (⟨"QuarrelSauce", "isDish", "(I)Z"⟩, 7), (⟨"QuarrelSauce$Kitchen", "told", "(II)I"⟩, 9), (⟨"QuarrelSauce$Dish", "needs", "(I)I"⟩, 6), (⟨"QuarrelSauce$Kitchen", "deedNow", "()I"⟩, 9), (⟨"QuarrelSauce$Dish", "thickens", "(III)I"⟩, 6), (⟨"QuarrelSauce$Dish", "salts", "(I)I"⟩, 6), (⟨"QuarrelSauce$Dish", "burns", "()I"⟩, 6), (⟨"QuarrelSauce$Dish", "gives", "(I)I"⟩, 6), (⟨"QuarrelSauce$Dish", "put", "(II)V"⟩, 6), (⟨"QuarrelSauce$Kitchen", "serveDish", "(I)I"⟩, 9), (⟨"QuarrelSauce$Kitchen", "given", "(I)I"⟩, 9), (⟨"QuarrelSauce$Dish", "startAnew", "()V"⟩, 6), (⟨"QuarrelSauce$Kitchen", "passSteps", "(I)V"⟩, 9)]
theorem lw_r1 : ∀ q ∈ lw_privs_1, lw_okq q := List.forall_mem_cons.mpr ⟨lw_p0, List.forall_mem_cons.mpr ⟨lw_p1, List.forall_mem_cons.mpr ⟨lw_p2, List.forall_mem_cons.mpr ⟨lw_p3, List.forall_mem_cons.mpr ⟨lw_p4, List.forall_mem_cons.mpr ⟨lw_p5, List.forall_mem_cons.mpr ⟨lw_p6, List.forall_mem_cons.mpr ⟨lw_p7, List.forall_mem_cons.mpr ⟨lw_p8, List.forall_mem_cons.mpr ⟨lw_p9, List.forall_mem_cons.mpr ⟨lw_p10, List.forall_mem_cons.mpr ⟨lw_p11, List.forall_mem_cons.mpr ⟨lw_p12, List.forall_mem_cons.mpr ⟨lw_p13, List.forall_mem_cons.mpr ⟨lw_p14, List.forall_mem_cons.mpr ⟨lw_p15, fun _ h => absurd h List.not_mem_nil⟩⟩⟩⟩⟩⟩⟩⟩⟩⟩⟩⟩⟩⟩⟩⟩
theorem lw_p16 : lw_okq (⟨"QuarrelSauce$Kitchen", "passStep", "()V"⟩, 9) := ⟨⟨by decide +kernel, by decide +kernel⟩, List.mem_of_getElem? (i := 24) (by decide +kernel), List.mem_of_getElem? (i := 316) (by decide +kernel), List.mem_of_getElem? (i := 317) (by decide +kernel)⟩
theorem lw_p17 : lw_okq (⟨"QuarrelSauce$Dish", "isCooking", "()Z"⟩, 6) := ⟨⟨by decide +kernel, by decide +kernel⟩, List.mem_of_getElem? (i := 34) (by decide +kernel), List.mem_of_getElem? (i := 321) (by decide +kernel), List.mem_of_getElem? (i := 322) (by decide +kernel)⟩
theorem lw_p18 : lw_okq (⟨"QuarrelSauce$Dish", "cook", "(III)V"⟩, 6) := ⟨⟨by decide +kernel, by decide +kernel⟩, List.mem_of_getElem? (i := 34) (by decide +kernel), List.mem_of_getElem? (i := 325) (by decide +kernel), List.mem_of_getElem? (i := 326) (by decide +kernel)⟩
theorem lw_p19 : lw_okq (⟨"QuarrelSauce$Kitchen", "splitSet", "()I"⟩, 9) := ⟨⟨by decide +kernel, by decide +kernel⟩, List.mem_of_getElem? (i := 24) (by decide +kernel), List.mem_of_getElem? (i := 337) (by decide +kernel), List.mem_of_getElem? (i := 338) (by decide +kernel)⟩
theorem lw_p20 : lw_okq (⟨"QuarrelSauce$Kitchen", "offSet", "()I"⟩, 9) := ⟨⟨by decide +kernel, by decide +kernel⟩, List.mem_of_getElem? (i := 24) (by decide +kernel), List.mem_of_getElem? (i := 341) (by decide +kernel), List.mem_of_getElem? (i := 342) (by decide +kernel)⟩
theorem lw_p21 : lw_okq (⟨"QuarrelSauce$Kitchen", "endangeredSet", "()I"⟩, 9) := ⟨⟨by decide +kernel, by decide +kernel⟩, List.mem_of_getElem? (i := 24) (by decide +kernel), List.mem_of_getElem? (i := 345) (by decide +kernel), List.mem_of_getElem? (i := 346) (by decide +kernel)⟩
theorem lw_p22 : lw_okq (⟨"QuarrelSauce$Kitchen", "givenForAll", "()I"⟩, 9) := ⟨⟨by decide +kernel, by decide +kernel⟩, List.mem_of_getElem? (i := 24) (by decide +kernel), List.mem_of_getElem? (i := 349) (by decide +kernel), List.mem_of_getElem? (i := 350) (by decide +kernel)⟩
theorem lw_p23 : lw_okq (⟨"QuarrelSauce$Kitchen", "dearest", "()I"⟩, 9) := ⟨⟨by decide +kernel, by decide +kernel⟩, List.mem_of_getElem? (i := 24) (by decide +kernel), List.mem_of_getElem? (i := 353) (by decide +kernel), List.mem_of_getElem? (i := 354) (by decide +kernel)⟩
theorem lw_p24 : lw_okq (⟨"QuarrelSauce$Kitchen", "takeOne", "(LQuarrelSauce$Kitchen;I)V"⟩, 9) := ⟨⟨by decide +kernel, by decide +kernel⟩, List.mem_of_getElem? (i := 24) (by decide +kernel), List.mem_of_getElem? (i := 361) (by decide +kernel), List.mem_of_getElem? (i := 362) (by decide +kernel)⟩
theorem lw_p25 : lw_okq (⟨"QuarrelSauce$Kitchen", "takeMood", "(LQuarrelSauce$Kitchen;)V"⟩, 9) := ⟨⟨by decide +kernel, by decide +kernel⟩, List.mem_of_getElem? (i := 24) (by decide +kernel), List.mem_of_getElem? (i := 365) (by decide +kernel), List.mem_of_getElem? (i := 366) (by decide +kernel)⟩
theorem lw_p26 : lw_okq (⟨"QuarrelSauce$Dish", "take", "(LQuarrelSauce$Dish;)V"⟩, 6) := ⟨⟨by decide +kernel, by decide +kernel⟩, List.mem_of_getElem? (i := 34) (by decide +kernel), List.mem_of_getElem? (i := 372) (by decide +kernel), List.mem_of_getElem? (i := 373) (by decide +kernel)⟩
theorem lw_p27 : lw_okq (⟨"QuarrelSauce$Kitchen", "takeAll", "(LQuarrelSauce$Kitchen;)V"⟩, 9) := ⟨⟨by decide +kernel, by decide +kernel⟩, List.mem_of_getElem? (i := 24) (by decide +kernel), List.mem_of_getElem? (i := 399) (by decide +kernel), List.mem_of_getElem? (i := 400) (by decide +kernel)⟩
theorem lw_p28 : lw_okq (⟨"QuarrelSauce", "faultOfTold", "(II)I"⟩, 7) := ⟨⟨by decide +kernel, by decide +kernel⟩, List.mem_of_getElem? (i := 16) (by decide +kernel), List.mem_of_getElem? (i := 423) (by decide +kernel), List.mem_of_getElem? (i := 424) (by decide +kernel)⟩
theorem lw_p29 : lw_okq (⟨"QuarrelSauce", "faultOfSheet", "(I)I"⟩, 7) := ⟨⟨by decide +kernel, by decide +kernel⟩, List.mem_of_getElem? (i := 16) (by decide +kernel), List.mem_of_getElem? (i := 427) (by decide +kernel), List.mem_of_getElem? (i := 428) (by decide +kernel)⟩
theorem lw_p30 : lw_okq (⟨"QuarrelSauce$Sheet", "isMissing", "()Z"⟩, 3) := ⟨⟨by decide +kernel, by decide +kernel⟩, List.mem_of_getElem? (i := 140) (by decide +kernel), List.mem_of_getElem? (i := 434) (by decide +kernel), List.mem_of_getElem? (i := 435) (by decide +kernel)⟩
theorem lw_p31 : lw_okq (⟨"QuarrelSauce", "draftGoesAs", "(LQuarrelSauce$Sheet;)Z"⟩, 7) := ⟨⟨by decide +kernel, by decide +kernel⟩, List.mem_of_getElem? (i := 16) (by decide +kernel), List.mem_of_getElem? (i := 438) (by decide +kernel), List.mem_of_getElem? (i := 439) (by decide +kernel)⟩
def lw_privs_2 : List (MethodName × Nat) := [(⟨"QuarrelSauce$Kitchen", "passStep", "()V"⟩, 9), (⟨"QuarrelSauce$Dish", "isCooking", "()Z"⟩, 6), (⟨"QuarrelSauce$Dish", "cook", "(III)V"⟩, 6), (⟨"QuarrelSauce$Kitchen", "splitSet", "()I"⟩, 9), (⟨"QuarrelSauce$Kitchen", "offSet", "()I"⟩, 9), (⟨"QuarrelSauce$Kitchen", "endangeredSet", "()I"⟩, 9), (⟨"QuarrelSauce$Kitchen", "givenForAll", "()I"⟩, 9), (⟨"QuarrelSauce$Kitchen", "dearest", "()I"⟩, 9), (⟨"QuarrelSauce$Kitchen", "takeOne", "(LQuarrelSauce$Kitchen;I)V"⟩, 9), (⟨"QuarrelSauce$Kitchen", "takeMood", "(LQuarrelSauce$Kitchen;)V"⟩, 9), (⟨"QuarrelSauce$Dish", "take", "(LQuarrelSauce$Dish;)V"⟩, 6), (⟨"QuarrelSauce$Kitchen", "takeAll", "(LQuarrelSauce$Kitchen;)V"⟩, 9), (⟨"QuarrelSauce", "faultOfTold", "(II)I"⟩, 7), (⟨"QuarrelSauce", "faultOfSheet", "(I)I"⟩, 7), (⟨"QuarrelSauce$Sheet", "isMissing", "()Z"⟩, 3), (⟨"QuarrelSauce", "draftGoesAs", "(LQuarrelSauce$Sheet;)Z"⟩, 7)]
theorem lw_r2 : ∀ q ∈ lw_privs_2, lw_okq q := List.forall_mem_cons.mpr ⟨lw_p16, List.forall_mem_cons.mpr ⟨lw_p17, List.forall_mem_cons.mpr ⟨lw_p18, List.forall_mem_cons.mpr ⟨lw_p19, List.forall_mem_cons.mpr ⟨lw_p20, List.forall_mem_cons.mpr ⟨lw_p21, List.forall_mem_cons.mpr ⟨lw_p22, List.forall_mem_cons.mpr ⟨lw_p23, List.forall_mem_cons.mpr ⟨lw_p24, List.forall_mem_cons.mpr ⟨lw_p25, List.forall_mem_cons.mpr ⟨lw_p26, List.forall_mem_cons.mpr ⟨lw_p27, List.forall_mem_cons.mpr ⟨lw_p28, List.forall_mem_cons.mpr ⟨lw_p29, List.forall_mem_cons.mpr ⟨lw_p30, List.forall_mem_cons.mpr ⟨lw_p31, fun _ h => absurd h List.not_mem_nil⟩⟩⟩⟩⟩⟩⟩⟩⟩⟩⟩⟩⟩⟩⟩⟩
theorem lw_p32 : lw_okq (⟨"QuarrelSauce$Kitchen", "serviceStep", "()V"⟩, 9) := ⟨⟨by decide +kernel, by decide +kernel⟩, List.mem_of_getElem? (i := 24) (by decide +kernel), List.mem_of_getElem? (i := 450) (by decide +kernel), List.mem_of_getElem? (i := 451) (by decide +kernel)⟩
theorem lw_p33 : lw_okq (⟨"QuarrelSauce$Kitchen", "draw", "()I"⟩, 9) := ⟨⟨by decide +kernel, by decide +kernel⟩, List.mem_of_getElem? (i := 24) (by decide +kernel), List.mem_of_getElem? (i := 454) (by decide +kernel), List.mem_of_getElem? (i := 455) (by decide +kernel)⟩
theorem lw_p34 : lw_okq (⟨"QuarrelSauce$Kitchen", "harmlessDeeds", "(I)I"⟩, 9) := ⟨⟨by decide +kernel, by decide +kernel⟩, List.mem_of_getElem? (i := 24) (by decide +kernel), List.mem_of_getElem? (i := 464) (by decide +kernel), List.mem_of_getElem? (i := 465) (by decide +kernel)⟩
theorem lw_p35 : lw_okq (⟨"QuarrelSauce$Tape", "append", "(II)V"⟩, 5) := ⟨⟨by decide +kernel, by decide +kernel⟩, List.mem_of_getElem? (i := 115) (by decide +kernel), List.mem_of_getElem? (i := 482) (by decide +kernel), List.mem_of_getElem? (i := 483) (by decide +kernel)⟩
theorem lw_p36 : lw_okq (⟨"QuarrelSauce$Tape", "readText", "(LQuarrelSauce$Kitchen;)I"⟩, 5) := ⟨⟨by decide +kernel, by decide +kernel⟩, List.mem_of_getElem? (i := 115) (by decide +kernel), List.mem_of_getElem? (i := 494) (by decide +kernel), List.mem_of_getElem? (i := 495) (by decide +kernel)⟩
theorem lw_p37 : lw_okq (⟨"QuarrelSauce$Tape", "nextToken", "()V"⟩, 5) := ⟨⟨by decide +kernel, by decide +kernel⟩, List.mem_of_getElem? (i := 115) (by decide +kernel), List.mem_of_getElem? (i := 498) (by decide +kernel), List.mem_of_getElem? (i := 499) (by decide +kernel)⟩
theorem lw_p38 : lw_okq (⟨"QuarrelSauce$Tape", "readItem", "(LQuarrelSauce$Kitchen;)Z"⟩, 5) := ⟨⟨by decide +kernel, by decide +kernel⟩, List.mem_of_getElem? (i := 115) (by decide +kernel), List.mem_of_getElem? (i := 505) (by decide +kernel), List.mem_of_getElem? (i := 506) (by decide +kernel)⟩
theorem lw_p39 : lw_okq (⟨"QuarrelSauce$Tape", "kindNamed", "()I"⟩, 5) := ⟨⟨by decide +kernel, by decide +kernel⟩, List.mem_of_getElem? (i := 115) (by decide +kernel), List.mem_of_getElem? (i := 509) (by decide +kernel), List.mem_of_getElem? (i := 510) (by decide +kernel)⟩
theorem lw_p40 : lw_okq (⟨"QuarrelSauce$Tape", "isWord", "(Ljava/lang/String;)Z"⟩, 5) := ⟨⟨by decide +kernel, by decide +kernel⟩, List.mem_of_getElem? (i := 115) (by decide +kernel), List.mem_of_getElem? (i := 514) (by decide +kernel), List.mem_of_getElem? (i := 515) (by decide +kernel)⟩
theorem lw_p41 : lw_okq (⟨"QuarrelSauce$Tape", "readDish", "(LQuarrelSauce$Dish;)Z"⟩, 5) := ⟨⟨by decide +kernel, by decide +kernel⟩, List.mem_of_getElem? (i := 115) (by decide +kernel), List.mem_of_getElem? (i := 573) (by decide +kernel), List.mem_of_getElem? (i := 574) (by decide +kernel)⟩
theorem lw_p42 : lw_okq (⟨"QuarrelSauce$Tape", "skipWord", "(Ljava/lang/String;)Z"⟩, 5) := ⟨⟨by decide +kernel, by decide +kernel⟩, List.mem_of_getElem? (i := 115) (by decide +kernel), List.mem_of_getElem? (i := 578) (by decide +kernel), List.mem_of_getElem? (i := 579) (by decide +kernel)⟩
theorem lw_p43 : lw_okq (⟨"QuarrelSauce$Tape", "readNumber", "(I)I"⟩, 5) := ⟨⟨by decide +kernel, by decide +kernel⟩, List.mem_of_getElem? (i := 115) (by decide +kernel), List.mem_of_getElem? (i := 582) (by decide +kernel), List.mem_of_getElem? (i := 583) (by decide +kernel)⟩
theorem lw_p44 : lw_okq (⟨"QuarrelSauce$Tape", "valueOfToken", "()I"⟩, 5) := ⟨⟨by decide +kernel, by decide +kernel⟩, List.mem_of_getElem? (i := 115) (by decide +kernel), List.mem_of_getElem? (i := 586) (by decide +kernel), List.mem_of_getElem? (i := 587) (by decide +kernel)⟩
theorem lw_p45 : lw_okq (⟨"QuarrelSauce$Tape", "readDeed", "(LQuarrelSauce$Kitchen;)Z"⟩, 5) := ⟨⟨by decide +kernel, by decide +kernel⟩, List.mem_of_getElem? (i := 115) (by decide +kernel), List.mem_of_getElem? (i := 595) (by decide +kernel), List.mem_of_getElem? (i := 596) (by decide +kernel)⟩
theorem lw_p46 : lw_okq (⟨"QuarrelSauce$Sheet", "renew", "(II)V"⟩, 3) := ⟨⟨by decide +kernel, by decide +kernel⟩, List.mem_of_getElem? (i := 140) (by decide +kernel), List.mem_of_getElem? (i := 621) (by decide +kernel), List.mem_of_getElem? (i := 622) (by decide +kernel)⟩
theorem lw_p47 : lw_okq (⟨"QuarrelSauce$Sheet", "put", "(II)V"⟩, 3) := ⟨⟨by decide +kernel, by decide +kernel⟩, List.mem_of_getElem? (i := 140) (by decide +kernel), List.mem_of_getElem? (i := 630) (by decide +kernel), List.mem_of_getElem? (i := 631) (by decide +kernel)⟩
def lw_privs_3 : List (MethodName × Nat) := [(⟨"QuarrelSauce$Kitchen", "serviceStep", "()V"⟩, 9), (⟨"QuarrelSauce$Kitchen", "draw", "()I"⟩, 9), (⟨"QuarrelSauce$Kitchen", "harmlessDeeds", "(I)I"⟩, 9), (⟨"QuarrelSauce$Tape", "append", "(II)V"⟩, 5), (⟨"QuarrelSauce$Tape", "readText", "(LQuarrelSauce$Kitchen;)I"⟩, 5), (⟨"QuarrelSauce$Tape", "nextToken", "()V"⟩, 5), (⟨"QuarrelSauce$Tape", "readItem", "(LQuarrelSauce$Kitchen;)Z"⟩, 5), (⟨"QuarrelSauce$Tape", "kindNamed", "()I"⟩, 5), (⟨"QuarrelSauce$Tape", "isWord", "(Ljava/lang/String;)Z"⟩, 5), (⟨"QuarrelSauce$Tape", "readDish", "(LQuarrelSauce$Dish;)Z"⟩, 5), (⟨"QuarrelSauce$Tape", "skipWord", "(Ljava/lang/String;)Z"⟩, 5), (⟨"QuarrelSauce$Tape", "readNumber", "(I)I"⟩, 5), (⟨"QuarrelSauce$Tape", "valueOfToken", "()I"⟩, 5), (⟨"QuarrelSauce$Tape", "readDeed", "(LQuarrelSauce$Kitchen;)Z"⟩, 5), (⟨"QuarrelSauce$Sheet", "renew", "(II)V"⟩, 3), (⟨"QuarrelSauce$Sheet", "put", "(II)V"⟩, 3)]
theorem lw_r3 : ∀ q ∈ lw_privs_3, lw_okq q := List.forall_mem_cons.mpr ⟨lw_p32, List.forall_mem_cons.mpr ⟨lw_p33, List.forall_mem_cons.mpr ⟨lw_p34, List.forall_mem_cons.mpr ⟨lw_p35, List.forall_mem_cons.mpr ⟨lw_p36, List.forall_mem_cons.mpr ⟨lw_p37, List.forall_mem_cons.mpr ⟨lw_p38, List.forall_mem_cons.mpr ⟨lw_p39, List.forall_mem_cons.mpr ⟨lw_p40, List.forall_mem_cons.mpr ⟨lw_p41, List.forall_mem_cons.mpr ⟨lw_p42, List.forall_mem_cons.mpr ⟨lw_p43, List.forall_mem_cons.mpr ⟨lw_p44, List.forall_mem_cons.mpr ⟨lw_p45, List.forall_mem_cons.mpr ⟨lw_p46, List.forall_mem_cons.mpr ⟨lw_p47, fun _ h => absurd h List.not_mem_nil⟩⟩⟩⟩⟩⟩⟩⟩⟩⟩⟩⟩⟩⟩⟩⟩
theorem lw_p48 : lw_okq (⟨"QuarrelSauce$Sheet", "hasPart", "(II)Z"⟩, 3) := ⟨⟨by decide +kernel, by decide +kernel⟩, List.mem_of_getElem? (i := 140) (by decide +kernel), List.mem_of_getElem? (i := 638) (by decide +kernel), List.mem_of_getElem? (i := 639) (by decide +kernel)⟩
theorem lw_p49 : lw_okq (⟨"QuarrelSauce$Kitchen", "heldSpots", "()I"⟩, 9) := ⟨⟨by decide +kernel, by decide +kernel⟩, List.mem_of_getElem? (i := 24) (by decide +kernel), List.mem_of_getElem? (i := 673) (by decide +kernel), List.mem_of_getElem? (i := 674) (by decide +kernel)⟩
theorem lw_p50 : lw_okq (⟨"QuarrelSauceModel", "becomes", "(II)I"⟩, 15) := ⟨⟨by decide +kernel, by decide +kernel⟩, List.mem_of_getElem? (i := 681) (by decide +kernel), List.mem_of_getElem? (i := 740) (by decide +kernel), List.mem_of_getElem? (i := 741) (by decide +kernel)⟩
theorem lw_p51 : lw_okq (⟨"QuarrelSauceModel", "finds", "(I)I"⟩, 15) := ⟨⟨by decide +kernel, by decide +kernel⟩, List.mem_of_getElem? (i := 681) (by decide +kernel), List.mem_of_getElem? (i := 745) (by decide +kernel), List.mem_of_getElem? (i := 746) (by decide +kernel)⟩
theorem lw_p52 : lw_okq (⟨"QuarrelSauceModel", "comes", "(IIIII)I"⟩, 15) := ⟨⟨by decide +kernel, by decide +kernel⟩, List.mem_of_getElem? (i := 681) (by decide +kernel), List.mem_of_getElem? (i := 765) (by decide +kernel), List.mem_of_getElem? (i := 766) (by decide +kernel)⟩
theorem lw_p53 : lw_okq (⟨"QuarrelSauceModel", "put", "(III)V"⟩, 15) := ⟨⟨by decide +kernel, by decide +kernel⟩, List.mem_of_getElem? (i := 681) (by decide +kernel), List.mem_of_getElem? (i := 769) (by decide +kernel), List.mem_of_getElem? (i := 770) (by decide +kernel)⟩
theorem lw_p54 : lw_okq (⟨"QuarrelSauceModel", "isDish", "(I)Z"⟩, 15) := ⟨⟨by decide +kernel, by decide +kernel⟩, List.mem_of_getElem? (i := 681) (by decide +kernel), List.mem_of_getElem? (i := 777) (by decide +kernel), List.mem_of_getElem? (i := 778) (by decide +kernel)⟩
theorem lw_p55 : lw_okq (⟨"QuarrelSauceModel", "needs", "(I)I"⟩, 15) := ⟨⟨by decide +kernel, by decide +kernel⟩, List.mem_of_getElem? (i := 681) (by decide +kernel), List.mem_of_getElem? (i := 781) (by decide +kernel), List.mem_of_getElem? (i := 782) (by decide +kernel)⟩
theorem lw_p56 : lw_okq (⟨"QuarrelSauceModel", "it", "(II)I"⟩, 15) := ⟨⟨by decide +kernel, by decide +kernel⟩, List.mem_of_getElem? (i := 681) (by decide +kernel), List.mem_of_getElem? (i := 785) (by decide +kernel), List.mem_of_getElem? (i := 786) (by decide +kernel)⟩
theorem lw_p57 : lw_okq (⟨"QuarrelSauceModel", "thickens", "(I)I"⟩, 15) := ⟨⟨by decide +kernel, by decide +kernel⟩, List.mem_of_getElem? (i := 681) (by decide +kernel), List.mem_of_getElem? (i := 789) (by decide +kernel), List.mem_of_getElem? (i := 790) (by decide +kernel)⟩
theorem lw_p58 : lw_okq (⟨"QuarrelSauceModel", "deedNow", "()I"⟩, 15) := ⟨⟨by decide +kernel, by decide +kernel⟩, List.mem_of_getElem? (i := 681) (by decide +kernel), List.mem_of_getElem? (i := 793) (by decide +kernel), List.mem_of_getElem? (i := 794) (by decide +kernel)⟩
theorem lw_p59 : lw_okq (⟨"QuarrelSauceModel", "salts", "(I)I"⟩, 15) := ⟨⟨by decide +kernel, by decide +kernel⟩, List.mem_of_getElem? (i := 681) (by decide +kernel), List.mem_of_getElem? (i := 797) (by decide +kernel), List.mem_of_getElem? (i := 798) (by decide +kernel)⟩
theorem lw_p60 : lw_okq (⟨"QuarrelSauceModel", "burns", "(I)I"⟩, 15) := ⟨⟨by decide +kernel, by decide +kernel⟩, List.mem_of_getElem? (i := 681) (by decide +kernel), List.mem_of_getElem? (i := 801) (by decide +kernel), List.mem_of_getElem? (i := 802) (by decide +kernel)⟩
theorem lw_p61 : lw_okq (⟨"QuarrelSauceModel", "gives", "(I)I"⟩, 15) := ⟨⟨by decide +kernel, by decide +kernel⟩, List.mem_of_getElem? (i := 681) (by decide +kernel), List.mem_of_getElem? (i := 805) (by decide +kernel), List.mem_of_getElem? (i := 806) (by decide +kernel)⟩
theorem lw_p62 : lw_okq (⟨"QuarrelSauceModel", "serves", "(I)I"⟩, 15) := ⟨⟨by decide +kernel, by decide +kernel⟩, List.mem_of_getElem? (i := 681) (by decide +kernel), List.mem_of_getElem? (i := 821) (by decide +kernel), List.mem_of_getElem? (i := 822) (by decide +kernel)⟩
theorem lw_p63 : lw_okq (⟨"QuarrelSauceModel", "does", "(I)I"⟩, 15) := ⟨⟨by decide +kernel, by decide +kernel⟩, List.mem_of_getElem? (i := 681) (by decide +kernel), List.mem_of_getElem? (i := 833) (by decide +kernel), List.mem_of_getElem? (i := 834) (by decide +kernel)⟩
def lw_privs_4 : List (MethodName × Nat) := [(⟨"QuarrelSauce$Sheet", "hasPart", "(II)Z"⟩, 3), (⟨"QuarrelSauce$Kitchen", "heldSpots", "()I"⟩, 9), (⟨"QuarrelSauceModel", "becomes", "(II)I"⟩, 15), (⟨"QuarrelSauceModel", "finds", "(I)I"⟩, 15), (⟨"QuarrelSauceModel", "comes", "(IIIII)I"⟩, 15), (⟨"QuarrelSauceModel", "put", "(III)V"⟩, 15), (⟨"QuarrelSauceModel", "isDish", "(I)Z"⟩, 15), (⟨"QuarrelSauceModel", "needs", "(I)I"⟩, 15), (⟨"QuarrelSauceModel", "it", "(II)I"⟩, 15), (⟨"QuarrelSauceModel", "thickens", "(I)I"⟩, 15), (⟨"QuarrelSauceModel", "deedNow", "()I"⟩, 15), (⟨"QuarrelSauceModel", "salts", "(I)I"⟩, 15), (⟨"QuarrelSauceModel", "burns", "(I)I"⟩, 15), (⟨"QuarrelSauceModel", "gives", "(I)I"⟩, 15), (⟨"QuarrelSauceModel", "serves", "(I)I"⟩, 15), (⟨"QuarrelSauceModel", "does", "(I)I"⟩, 15)]
theorem lw_r4 : ∀ q ∈ lw_privs_4, lw_okq q := List.forall_mem_cons.mpr ⟨lw_p48, List.forall_mem_cons.mpr ⟨lw_p49, List.forall_mem_cons.mpr ⟨lw_p50, List.forall_mem_cons.mpr ⟨lw_p51, List.forall_mem_cons.mpr ⟨lw_p52, List.forall_mem_cons.mpr ⟨lw_p53, List.forall_mem_cons.mpr ⟨lw_p54, List.forall_mem_cons.mpr ⟨lw_p55, List.forall_mem_cons.mpr ⟨lw_p56, List.forall_mem_cons.mpr ⟨lw_p57, List.forall_mem_cons.mpr ⟨lw_p58, List.forall_mem_cons.mpr ⟨lw_p59, List.forall_mem_cons.mpr ⟨lw_p60, List.forall_mem_cons.mpr ⟨lw_p61, List.forall_mem_cons.mpr ⟨lw_p62, List.forall_mem_cons.mpr ⟨lw_p63, fun _ h => absurd h List.not_mem_nil⟩⟩⟩⟩⟩⟩⟩⟩⟩⟩⟩⟩⟩⟩⟩⟩
theorem lw_p64 : lw_okq (⟨"QuarrelSauceModel", "goesFor", "(I)V"⟩, 15) := ⟨⟨by decide +kernel, by decide +kernel⟩, List.mem_of_getElem? (i := 681) (by decide +kernel), List.mem_of_getElem? (i := 843) (by decide +kernel), List.mem_of_getElem? (i := 844) (by decide +kernel)⟩
theorem lw_p65 : lw_okq (⟨"QuarrelSauceModel", "goes", "()V"⟩, 15) := ⟨⟨by decide +kernel, by decide +kernel⟩, List.mem_of_getElem? (i := 681) (by decide +kernel), List.mem_of_getElem? (i := 847) (by decide +kernel), List.mem_of_getElem? (i := 848) (by decide +kernel)⟩
theorem lw_p66 : lw_okq (⟨"QuarrelSauceModel", "isOn", "(I)Z"⟩, 15) := ⟨⟨by decide +kernel, by decide +kernel⟩, List.mem_of_getElem? (i := 681) (by decide +kernel), List.mem_of_getElem? (i := 851) (by decide +kernel), List.mem_of_getElem? (i := 852) (by decide +kernel)⟩
theorem lw_p67 : lw_okq (⟨"QuarrelSauceModel", "cooks", "(I)V"⟩, 15) := ⟨⟨by decide +kernel, by decide +kernel⟩, List.mem_of_getElem? (i := 681) (by decide +kernel), List.mem_of_getElem? (i := 855) (by decide +kernel), List.mem_of_getElem? (i := 856) (by decide +kernel)⟩
theorem lw_p68 : lw_okq (⟨"QuarrelSauceModel", "setOf", "(I)I"⟩, 15) := ⟨⟨by decide +kernel, by decide +kernel⟩, List.mem_of_getElem? (i := 681) (by decide +kernel), List.mem_of_getElem? (i := 863) (by decide +kernel), List.mem_of_getElem? (i := 864) (by decide +kernel)⟩
theorem lw_p69 : lw_okq (⟨"QuarrelSauceModel", "wouldSplit", "()I"⟩, 15) := ⟨⟨by decide +kernel, by decide +kernel⟩, List.mem_of_getElem? (i := 681) (by decide +kernel), List.mem_of_getElem? (i := 867) (by decide +kernel), List.mem_of_getElem? (i := 868) (by decide +kernel)⟩
theorem lw_p70 : lw_okq (⟨"QuarrelSauceModel", "allGive", "()I"⟩, 15) := ⟨⟨by decide +kernel, by decide +kernel⟩, List.mem_of_getElem? (i := 681) (by decide +kernel), List.mem_of_getElem? (i := 871) (by decide +kernel), List.mem_of_getElem? (i := 872) (by decide +kernel)⟩
theorem lw_p71 : lw_okq (⟨"QuarrelSauceModel", "finest", "()I"⟩, 15) := ⟨⟨by decide +kernel, by decide +kernel⟩, List.mem_of_getElem? (i := 681) (by decide +kernel), List.mem_of_getElem? (i := 875) (by decide +kernel), List.mem_of_getElem? (i := 876) (by decide +kernel)⟩
theorem lw_p72 : lw_okq (⟨"QuarrelSauceModel", "thinks", "()V"⟩, 15) := ⟨⟨by decide +kernel, by decide +kernel⟩, List.mem_of_getElem? (i := 681) (by decide +kernel), List.mem_of_getElem? (i := 883) (by decide +kernel), List.mem_of_getElem? (i := 884) (by decide +kernel)⟩
theorem lw_p73 : lw_okq (⟨"QuarrelSauceModel", "putsBack", "()V"⟩, 15) := ⟨⟨by decide +kernel, by decide +kernel⟩, List.mem_of_getElem? (i := 681) (by decide +kernel), List.mem_of_getElem? (i := 890) (by decide +kernel), List.mem_of_getElem? (i := 891) (by decide +kernel)⟩
theorem lw_p74 : lw_okq (⟨"QuarrelSauceModel", "orNone", "(I)I"⟩, 15) := ⟨⟨by decide +kernel, by decide +kernel⟩, List.mem_of_getElem? (i := 681) (by decide +kernel), List.mem_of_getElem? (i := 919) (by decide +kernel), List.mem_of_getElem? (i := 920) (by decide +kernel)⟩
theorem lw_p75 : lw_okq (⟨"QuarrelSauceModel", "isSafe", "(II)Z"⟩, 15) := ⟨⟨by decide +kernel, by decide +kernel⟩, List.mem_of_getElem? (i := 681) (by decide +kernel), List.mem_of_getElem? (i := 938) (by decide +kernel), List.mem_of_getElem? (i := 939) (by decide +kernel)⟩
theorem lw_p76 : lw_okq (⟨"QuarrelSauceModel", "notAsked", "(II)I"⟩, 15) := ⟨⟨by decide +kernel, by decide +kernel⟩, List.mem_of_getElem? (i := 681) (by decide +kernel), List.mem_of_getElem? (i := 946) (by decide +kernel), List.mem_of_getElem? (i := 947) (by decide +kernel)⟩
theorem lw_p77 : lw_okq (⟨"QuarrelSauceModel", "notThere", "(I)I"⟩, 15) := ⟨⟨by decide +kernel, by decide +kernel⟩, List.mem_of_getElem? (i := 681) (by decide +kernel), List.mem_of_getElem? (i := 950) (by decide +kernel), List.mem_of_getElem? (i := 951) (by decide +kernel)⟩
theorem lw_p78 : lw_okq (⟨"QuarrelSauceModel", "isTold", "(II)Z"⟩, 15) := ⟨⟨by decide +kernel, by decide +kernel⟩, List.mem_of_getElem? (i := 681) (by decide +kernel), List.mem_of_getElem? (i := 958) (by decide +kernel), List.mem_of_getElem? (i := 959) (by decide +kernel)⟩
theorem lw_p79 : lw_okq (⟨"QuarrelSauceModel", "draw", "()I"⟩, 15) := ⟨⟨by decide +kernel, by decide +kernel⟩, List.mem_of_getElem? (i := 681) (by decide +kernel), List.mem_of_getElem? (i := 970) (by decide +kernel), List.mem_of_getElem? (i := 971) (by decide +kernel)⟩
def lw_privs_5 : List (MethodName × Nat) := [(⟨"QuarrelSauceModel", "goesFor", "(I)V"⟩, 15), (⟨"QuarrelSauceModel", "goes", "()V"⟩, 15), (⟨"QuarrelSauceModel", "isOn", "(I)Z"⟩, 15), (⟨"QuarrelSauceModel", "cooks", "(I)V"⟩, 15), (⟨"QuarrelSauceModel", "setOf", "(I)I"⟩, 15), (⟨"QuarrelSauceModel", "wouldSplit", "()I"⟩, 15), (⟨"QuarrelSauceModel", "allGive", "()I"⟩, 15), (⟨"QuarrelSauceModel", "finest", "()I"⟩, 15), (⟨"QuarrelSauceModel", "thinks", "()V"⟩, 15), (⟨"QuarrelSauceModel", "putsBack", "()V"⟩, 15), (⟨"QuarrelSauceModel", "orNone", "(I)I"⟩, 15), (⟨"QuarrelSauceModel", "isSafe", "(II)Z"⟩, 15), (⟨"QuarrelSauceModel", "notAsked", "(II)I"⟩, 15), (⟨"QuarrelSauceModel", "notThere", "(I)I"⟩, 15), (⟨"QuarrelSauceModel", "isTold", "(II)Z"⟩, 15), (⟨"QuarrelSauceModel", "draw", "()I"⟩, 15)]
theorem lw_r5 : ∀ q ∈ lw_privs_5, lw_okq q := List.forall_mem_cons.mpr ⟨lw_p64, List.forall_mem_cons.mpr ⟨lw_p65, List.forall_mem_cons.mpr ⟨lw_p66, List.forall_mem_cons.mpr ⟨lw_p67, List.forall_mem_cons.mpr ⟨lw_p68, List.forall_mem_cons.mpr ⟨lw_p69, List.forall_mem_cons.mpr ⟨lw_p70, List.forall_mem_cons.mpr ⟨lw_p71, List.forall_mem_cons.mpr ⟨lw_p72, List.forall_mem_cons.mpr ⟨lw_p73, List.forall_mem_cons.mpr ⟨lw_p74, List.forall_mem_cons.mpr ⟨lw_p75, List.forall_mem_cons.mpr ⟨lw_p76, List.forall_mem_cons.mpr ⟨lw_p77, List.forall_mem_cons.mpr ⟨lw_p78, List.forall_mem_cons.mpr ⟨lw_p79, fun _ h => absurd h List.not_mem_nil⟩⟩⟩⟩⟩⟩⟩⟩⟩⟩⟩⟩⟩⟩⟩⟩
theorem lw_p80 : lw_okq (⟨"QuarrelSauceModel", "reads", "()V"⟩, 15) := ⟨⟨by decide +kernel, by decide +kernel⟩, List.mem_of_getElem? (i := 681) (by decide +kernel), List.mem_of_getElem? (i := 995) (by decide +kernel), List.mem_of_getElem? (i := 996) (by decide +kernel)⟩
theorem lw_p81 : lw_okq (⟨"QuarrelSauceModel", "isByte", "(III)Z"⟩, 15) := ⟨⟨by decide +kernel, by decide +kernel⟩, List.mem_of_getElem? (i := 681) (by decide +kernel), List.mem_of_getElem? (i := 999) (by decide +kernel), List.mem_of_getElem? (i := 1000) (by decide +kernel)⟩
theorem lw_p82 : lw_okq (⟨"QuarrelSauceModel", "wordHere", "()I"⟩, 15) := ⟨⟨by decide +kernel, by decide +kernel⟩, List.mem_of_getElem? (i := 681) (by decide +kernel), List.mem_of_getElem? (i := 1003) (by decide +kernel), List.mem_of_getElem? (i := 1004) (by decide +kernel)⟩
theorem lw_p83 : lw_okq (⟨"QuarrelSauceModel", "isName", "(II)Z"⟩, 15) := ⟨⟨by decide +kernel, by decide +kernel⟩, List.mem_of_getElem? (i := 681) (by decide +kernel), List.mem_of_getElem? (i := 1007) (by decide +kernel), List.mem_of_getElem? (i := 1008) (by decide +kernel)⟩
theorem lw_p84 : lw_okq (⟨"QuarrelSauceModel", "item", "()V"⟩, 15) := ⟨⟨by decide +kernel, by decide +kernel⟩, List.mem_of_getElem? (i := 681) (by decide +kernel), List.mem_of_getElem? (i := 1013) (by decide +kernel), List.mem_of_getElem? (i := 1014) (by decide +kernel)⟩
theorem lw_p85 : lw_okq (⟨"QuarrelSauceModel", "dishItem", "()V"⟩, 15) := ⟨⟨by decide +kernel, by decide +kernel⟩, List.mem_of_getElem? (i := 681) (by decide +kernel), List.mem_of_getElem? (i := 1017) (by decide +kernel), List.mem_of_getElem? (i := 1018) (by decide +kernel)⟩
theorem lw_p86 : lw_okq (⟨"QuarrelSauceModel", "perhaps", "(IIII)I"⟩, 15) := ⟨⟨by decide +kernel, by decide +kernel⟩, List.mem_of_getElem? (i := 681) (by decide +kernel), List.mem_of_getElem? (i := 1021) (by decide +kernel), List.mem_of_getElem? (i := 1022) (by decide +kernel)⟩
theorem lw_p87 : lw_okq (⟨"QuarrelSauceModel", "takes", "(I)Z"⟩, 15) := ⟨⟨by decide +kernel, by decide +kernel⟩, List.mem_of_getElem? (i := 681) (by decide +kernel), List.mem_of_getElem? (i := 1025) (by decide +kernel), List.mem_of_getElem? (i := 1026) (by decide +kernel)⟩
theorem lw_p88 : lw_okq (⟨"QuarrelSauceModel", "number", "(II)I"⟩, 15) := ⟨⟨by decide +kernel, by decide +kernel⟩, List.mem_of_getElem? (i := 681) (by decide +kernel), List.mem_of_getElem? (i := 1029) (by decide +kernel), List.mem_of_getElem? (i := 1030) (by decide +kernel)⟩
theorem lw_p89 : lw_okq (⟨"QuarrelSauceModel", "deedItem", "()V"⟩, 15) := ⟨⟨by decide +kernel, by decide +kernel⟩, List.mem_of_getElem? (i := 681) (by decide +kernel), List.mem_of_getElem? (i := 1033) (by decide +kernel), List.mem_of_getElem? (i := 1034) (by decide +kernel)⟩
theorem lw_p90 : lw_okq (⟨"QuarrelSauceModel", "notCopied", "(IIIII)I"⟩, 15) := ⟨⟨by decide +kernel, by decide +kernel⟩, List.mem_of_getElem? (i := 681) (by decide +kernel), List.mem_of_getElem? (i := 1062) (by decide +kernel), List.mem_of_getElem? (i := 1063) (by decide +kernel)⟩
theorem lw_p91 : lw_okq (⟨"QuarrelSauceModel", "manyHeld", "()I"⟩, 15) := ⟨⟨by decide +kernel, by decide +kernel⟩, List.mem_of_getElem? (i := 681) (by decide +kernel), List.mem_of_getElem? (i := 1090) (by decide +kernel), List.mem_of_getElem? (i := 1091) (by decide +kernel)⟩
def lw_privs_6 : List (MethodName × Nat) := [(⟨"QuarrelSauceModel", "reads", "()V"⟩, 15), (⟨"QuarrelSauceModel", "isByte", "(III)Z"⟩, 15), (⟨"QuarrelSauceModel", "wordHere", "()I"⟩, 15), (⟨"QuarrelSauceModel", "isName", "(II)Z"⟩, 15), (⟨"QuarrelSauceModel", "item", "()V"⟩, 15), (⟨"QuarrelSauceModel", "dishItem", "()V"⟩, 15), (⟨"QuarrelSauceModel", "perhaps", "(IIII)I"⟩, 15), (⟨"QuarrelSauceModel", "takes", "(I)Z"⟩, 15), (⟨"QuarrelSauceModel", "number", "(II)I"⟩, 15), (⟨"QuarrelSauceModel", "deedItem", "()V"⟩, 15), (⟨"QuarrelSauceModel", "notCopied", "(IIIII)I"⟩, 15), (⟨"QuarrelSauceModel", "manyHeld", "()I"⟩, 15)]
theorem lw_r6 : ∀ q ∈ lw_privs_6, lw_okq q := List.forall_mem_cons.mpr ⟨lw_p80, List.forall_mem_cons.mpr ⟨lw_p81, List.forall_mem_cons.mpr ⟨lw_p82, List.forall_mem_cons.mpr ⟨lw_p83, List.forall_mem_cons.mpr ⟨lw_p84, List.forall_mem_cons.mpr ⟨lw_p85, List.forall_mem_cons.mpr ⟨lw_p86, List.forall_mem_cons.mpr ⟨lw_p87, List.forall_mem_cons.mpr ⟨lw_p88, List.forall_mem_cons.mpr ⟨lw_p89, List.forall_mem_cons.mpr ⟨lw_p90, List.forall_mem_cons.mpr ⟨lw_p91, fun _ h => absurd h List.not_mem_nil⟩⟩⟩⟩⟩⟩⟩⟩⟩⟩⟩⟩
def lw_privs : List (MethodName × Nat) := lw_privs_1 ++ (lw_privs_2 ++ (lw_privs_3 ++ (lw_privs_4 ++ (lw_privs_5 ++ (lw_privs_6)))))
def lw_tbl : List Cond := k2_sels lw_privs ++ tables_1
theorem lw_privs_ok : ∀ q ∈ lw_privs, lw_okq q := by
  show ∀ q ∈ lw_privs_1 ++ (lw_privs_2 ++ (lw_privs_3 ++ (lw_privs_4 ++ (lw_privs_5 ++ (lw_privs_6))))), lw_okq q
  exact List.forall_mem_append.mpr ⟨lw_r1, List.forall_mem_append.mpr ⟨lw_r2, List.forall_mem_append.mpr ⟨lw_r3, List.forall_mem_append.mpr ⟨lw_r4, List.forall_mem_append.mpr ⟨lw_r5, lw_r6⟩⟩⟩⟩⟩
end
section
def RX0 : String := "QuarrelSauce$Dish"
def TX0 : u_T := fun k => match k with
  | 0 => ("QuarrelSauce$Dish", "kind", "I", false)
  | 1 => ("QuarrelSauce$Dish", "thick", "I", false)
  | 2 => ("QuarrelSauce$Dish", "salt", "I", false)
  | 3 => ("QuarrelSauce$Dish", "split", "I", false)
  | 4 => ("QuarrelSauce$Dish", "off", "I", false)
  | _ => ("QuarrelSauce$Dish", "served", "I", false)
def tyX0 : Nat → FieldType := fun k => match k with
  | 0 => .int
  | 1 => .int
  | 2 => .int
  | 3 => .int
  | 4 => .int
  | _ => .int
abbrev wsX00 : List Cond := u_ws RX0 TX0 6
theorem nmX0 : ∀ a, a < 6 → ∀ b, b < 6 → a ≠ b → (TX0 a).2.1 ≠ (TX0 b).2.1 := by decide +kernel
theorem tyX0_ok : ∀ k, k < 6 → parseFieldDescriptor (TX0 k).2.2.1 = some (tyX0 k) := by decide +kernel
abbrev cX0_init : ByteArray := prog_2_method_1_code
def yX0_init : MethodName := ⟨RX0, "<init>", "()V"⟩
abbrev cX0_renew : ByteArray := prog_2_method_2_code
def yX0_renew : MethodName := ⟨RX0, "renew", "(I)V"⟩
abbrev cX0_take : ByteArray := prog_2_method_3_code
def yX0_take : MethodName := ⟨RX0, "take", "(LQuarrelSauce$Dish;)V"⟩
abbrev cX0_put : ByteArray := prog_2_method_4_code
def yX0_put : MethodName := ⟨RX0, "put", "(II)V"⟩
abbrev cX0_isCooking : ByteArray := prog_2_method_5_code
def yX0_isCooking : MethodName := ⟨RX0, "isCooking", "()Z"⟩
abbrev cX0_needs : ByteArray := prog_2_method_6_code
def yX0_needs : MethodName := ⟨RX0, "needs", "(I)I"⟩
abbrev cX0_thickens : ByteArray := prog_2_method_7_code
def yX0_thickens : MethodName := ⟨RX0, "thickens", "(III)I"⟩
abbrev cX0_salts : ByteArray := prog_2_method_8_code
def yX0_salts : MethodName := ⟨RX0, "salts", "(I)I"⟩
abbrev cX0_burns : ByteArray := prog_2_method_9_code
def yX0_burns : MethodName := ⟨RX0, "burns", "()I"⟩
abbrev cX0_gives : ByteArray := prog_2_method_10_code
def yX0_gives : MethodName := ⟨RX0, "gives", "(I)I"⟩
abbrev cX0_cook : ByteArray := prog_2_method_11_code
def yX0_cook : MethodName := ⟨RX0, "cook", "(III)V"⟩
abbrev cX0_startAnew : ByteArray := prog_2_method_12_code
def yX0_startAnew : MethodName := ⟨RX0, "startAnew", "()V"⟩
def RX1 : String := "QuarrelSauce$Kitchen"
def TX1 : u_T := fun k => match k with
  | 0 => ("QuarrelSauce$Kitchen", "grudge", "I", false)
  | 1 => ("QuarrelSauce$Kitchen", "heat", "I", false)
  | 2 => ("QuarrelSauce$Kitchen", "stars", "I", false)
  | 3 => ("QuarrelSauce$Kitchen", "step", "I", false)
  | 4 => ("QuarrelSauce$Kitchen", "z", "I", false)
  | 5 => ("QuarrelSauce$Kitchen", "dishCount", "I", false)
  | 6 => ("QuarrelSauce$Kitchen", "list", "[I", true)
  | 7 => ("QuarrelSauce$Kitchen", "spots", "[I", true)
  | _ => ("QuarrelSauce$Kitchen", "dishes", "[LQuarrelSauce$Dish;", true)
def tyX1 : Nat → FieldType := fun k => match k with
  | 0 => .int
  | 1 => .int
  | 2 => .int
  | 3 => .int
  | 4 => .int
  | 5 => .int
  | 6 => .array .int
  | 7 => .array .int
  | _ => .array (.object "QuarrelSauce$Dish")
abbrev wsX10 : List Cond := u_ws RX1 TX1 9
theorem nmX1 : ∀ a, a < 9 → ∀ b, b < 9 → a ≠ b → (TX1 a).2.1 ≠ (TX1 b).2.1 := by decide +kernel
theorem tyX1_ok : ∀ k, k < 9 → parseFieldDescriptor (TX1 k).2.2.1 = some (tyX1 k) := by decide +kernel
abbrev cX1_init : ByteArray := prog_3_method_1_code
def yX1_init : MethodName := ⟨RX1, "<init>", "()V"⟩
abbrev cX1_takeAll : ByteArray := prog_3_method_2_code
def yX1_takeAll : MethodName := ⟨RX1, "takeAll", "(LQuarrelSauce$Kitchen;)V"⟩
abbrev cX1_takeMood : ByteArray := prog_3_method_3_code
def yX1_takeMood : MethodName := ⟨RX1, "takeMood", "(LQuarrelSauce$Kitchen;)V"⟩
abbrev cX1_takeOne : ByteArray := prog_3_method_4_code
def yX1_takeOne : MethodName := ⟨RX1, "takeOne", "(LQuarrelSauce$Kitchen;I)V"⟩
abbrev cX1_addDish : ByteArray := prog_3_method_5_code
def yX1_addDish : MethodName := ⟨RX1, "addDish", "(I)LQuarrelSauce$Dish;"⟩
abbrev cX1_deedNow : ByteArray := prog_3_method_6_code
def yX1_deedNow : MethodName := ⟨RX1, "deedNow", "()I"⟩
abbrev cX1_passSteps : ByteArray := prog_3_method_7_code
def yX1_passSteps : MethodName := ⟨RX1, "passSteps", "(I)V"⟩
abbrev cX1_passStep : ByteArray := prog_3_method_8_code
def yX1_passStep : MethodName := ⟨RX1, "passStep", "()V"⟩
abbrev cX1_serviceStep : ByteArray := prog_3_method_9_code
def yX1_serviceStep : MethodName := ⟨RX1, "serviceStep", "()V"⟩
abbrev cX1_draw : ByteArray := prog_3_method_10_code
def yX1_draw : MethodName := ⟨RX1, "draw", "()I"⟩
abbrev cX1_serveDish : ByteArray := prog_3_method_11_code
def yX1_serveDish : MethodName := ⟨RX1, "serveDish", "(I)I"⟩
abbrev cX1_given : ByteArray := prog_3_method_12_code
def yX1_given : MethodName := ⟨RX1, "given", "(I)I"⟩
abbrev cX1_told : ByteArray := prog_3_method_13_code
def yX1_told : MethodName := ⟨RX1, "told", "(II)I"⟩
abbrev cX1_splitSet : ByteArray := prog_3_method_14_code
def yX1_splitSet : MethodName := ⟨RX1, "splitSet", "()I"⟩
abbrev cX1_offSet : ByteArray := prog_3_method_15_code
def yX1_offSet : MethodName := ⟨RX1, "offSet", "()I"⟩
abbrev cX1_endangeredSet : ByteArray := prog_3_method_16_code
def yX1_endangeredSet : MethodName := ⟨RX1, "endangeredSet", "()I"⟩
abbrev cX1_givenForAll : ByteArray := prog_3_method_17_code
def yX1_givenForAll : MethodName := ⟨RX1, "givenForAll", "()I"⟩
abbrev cX1_dearest : ByteArray := prog_3_method_18_code
def yX1_dearest : MethodName := ⟨RX1, "dearest", "()I"⟩
abbrev cX1_harmlessDeeds : ByteArray := prog_3_method_19_code
def yX1_harmlessDeeds : MethodName := ⟨RX1, "harmlessDeeds", "(I)I"⟩
abbrev cX1_heldSpots : ByteArray := prog_3_method_20_code
def yX1_heldSpots : MethodName := ⟨RX1, "heldSpots", "()I"⟩
def RX2 : String := "QuarrelSauce$Sheet"
def TX2 : u_T := fun k => match k with
  | 0 => ("QuarrelSauce$Sheet", "bits", "I", false)
  | 1 => ("QuarrelSauce$Sheet", "length", "I", false)
  | _ => ("QuarrelSauce$Sheet", "row", "[I", true)
def tyX2 : Nat → FieldType := fun k => match k with
  | 0 => .int
  | 1 => .int
  | _ => .array .int
abbrev wsX20 : List Cond := u_ws RX2 TX2 3
theorem nmX2 : ∀ a, a < 3 → ∀ b, b < 3 → a ≠ b → (TX2 a).2.1 ≠ (TX2 b).2.1 := by decide +kernel
theorem tyX2_ok : ∀ k, k < 3 → parseFieldDescriptor (TX2 k).2.2.1 = some (tyX2 k) := by decide +kernel
abbrev cX2_init : ByteArray := prog_4_method_1_code
def yX2_init : MethodName := ⟨RX2, "<init>", "()V"⟩
abbrev cX2_isMissing : ByteArray := prog_4_method_2_code
def yX2_isMissing : MethodName := ⟨RX2, "isMissing", "()Z"⟩
abbrev cX2_renew : ByteArray := prog_4_method_3_code
def yX2_renew : MethodName := ⟨RX2, "renew", "(II)V"⟩
abbrev cX2_put : ByteArray := prog_4_method_4_code
def yX2_put : MethodName := ⟨RX2, "put", "(II)V"⟩
abbrev cX2_hasPart : ByteArray := prog_4_method_5_code
def yX2_hasPart : MethodName := ⟨RX2, "hasPart", "(II)Z"⟩
def RX3 : String := "QuarrelSauce$Tape"
def TX3 : u_T := fun k => match k with
  | 0 => ("QuarrelSauce$Tape", "bytes", "[B", true)
  | 1 => ("QuarrelSauce$Tape", "length", "I", false)
  | 2 => ("QuarrelSauce$Tape", "token", "I", false)
  | 3 => ("QuarrelSauce$Tape", "start", "I", false)
  | _ => ("QuarrelSauce$Tape", "end", "I", false)
def tyX3 : Nat → FieldType := fun k => match k with
  | 0 => .array .byte
  | 1 => .int
  | 2 => .int
  | 3 => .int
  | _ => .int
abbrev wsX30 : List Cond := u_ws RX3 TX3 5
theorem nmX3 : ∀ a, a < 5 → ∀ b, b < 5 → a ≠ b → (TX3 a).2.1 ≠ (TX3 b).2.1 := by decide +kernel
theorem tyX3_ok : ∀ k, k < 5 → parseFieldDescriptor (TX3 k).2.2.1 = some (tyX3 k) := by decide +kernel
abbrev cX3_init : ByteArray := prog_5_method_1_code
def yX3_init : MethodName := ⟨RX3, "<init>", "()V"⟩
abbrev cX3_append : ByteArray := prog_5_method_2_code
def yX3_append : MethodName := ⟨RX3, "append", "(II)V"⟩
abbrev cX3_readText : ByteArray := prog_5_method_3_code
def yX3_readText : MethodName := ⟨RX3, "readText", "(LQuarrelSauce$Kitchen;)I"⟩
abbrev cX3_readItem : ByteArray := prog_5_method_4_code
def yX3_readItem : MethodName := ⟨RX3, "readItem", "(LQuarrelSauce$Kitchen;)Z"⟩
abbrev cX3_readDish : ByteArray := prog_5_method_5_code
def yX3_readDish : MethodName := ⟨RX3, "readDish", "(LQuarrelSauce$Dish;)Z"⟩
abbrev cX3_readDeed : ByteArray := prog_5_method_6_code
def yX3_readDeed : MethodName := ⟨RX3, "readDeed", "(LQuarrelSauce$Kitchen;)Z"⟩
abbrev cX3_readNumber : ByteArray := prog_5_method_7_code
def yX3_readNumber : MethodName := ⟨RX3, "readNumber", "(I)I"⟩
abbrev cX3_skipWord : ByteArray := prog_5_method_8_code
def yX3_skipWord : MethodName := ⟨RX3, "skipWord", "(Ljava/lang/String;)Z"⟩
abbrev cX3_kindNamed : ByteArray := prog_5_method_9_code
def yX3_kindNamed : MethodName := ⟨RX3, "kindNamed", "()I"⟩
abbrev cX3_isWord : ByteArray := prog_5_method_10_code
def yX3_isWord : MethodName := ⟨RX3, "isWord", "(Ljava/lang/String;)Z"⟩
abbrev cX3_nextToken : ByteArray := prog_5_method_11_code
def yX3_nextToken : MethodName := ⟨RX3, "nextToken", "()V"⟩
abbrev cX3_sortOf : ByteArray := prog_5_method_12_code
def yX3_sortOf : MethodName := ⟨RX3, "sortOf", "(B)I"⟩
abbrev cX3_valueOfToken : ByteArray := prog_5_method_13_code
def yX3_valueOfToken : MethodName := ⟨RX3, "valueOfToken", "()I"⟩
def RX4 : String := "QuarrelSauce"
def TX4 : u_T := fun k => match k with
  | 0 => ("QuarrelSauce", "kitchen", "LQuarrelSauce$Kitchen;", true)
  | 1 => ("QuarrelSauce", "kept", "LQuarrelSauce$Kitchen;", true)
  | 2 => ("QuarrelSauce", "draft", "LQuarrelSauce$Kitchen;", true)
  | 3 => ("QuarrelSauce", "tape", "LQuarrelSauce$Tape;", true)
  | 4 => ("QuarrelSauce", "sheets", "[LQuarrelSauce$Sheet;", true)
  | 5 => ("QuarrelSauce", "findings", "[I", true)
  | _ => ("QuarrelSauce", "isKept", "Z", false)
def tyX4 : Nat → FieldType := fun k => match k with
  | 0 => .object "QuarrelSauce$Kitchen"
  | 1 => .object "QuarrelSauce$Kitchen"
  | 2 => .object "QuarrelSauce$Kitchen"
  | 3 => .object "QuarrelSauce$Tape"
  | 4 => .array (.object "QuarrelSauce$Sheet")
  | 5 => .array .int
  | _ => .boolean
abbrev wsX40 : List Cond := u_ws RX4 TX4 7
theorem nmX4 : ∀ a, a < 7 → ∀ b, b < 7 → a ≠ b → (TX4 a).2.1 ≠ (TX4 b).2.1 := by decide +kernel
theorem tyX4_ok : ∀ k, k < 7 → parseFieldDescriptor (TX4 k).2.2.1 = some (tyX4 k) := by decide +kernel
abbrev cX4_init : ByteArray := prog_1_method_1_code
def yX4_init : MethodName := ⟨RX4, "<init>", "()V"⟩
abbrev cX4_set : ByteArray := prog_1_method_2_code
def yX4_set : MethodName := ⟨RX4, "set", "(II)I"⟩
abbrev cX4_deed : ByteArray := prog_1_method_3_code
def yX4_deed : MethodName := ⟨RX4, "deed", "(II)I"⟩
abbrev cX4_listed : ByteArray := prog_1_method_4_code
def yX4_listed : MethodName := ⟨RX4, "listed", "(I)I"⟩
abbrev cX4_dish : ByteArray := prog_1_method_5_code
def yX4_dish : MethodName := ⟨RX4, "dish", "(II)I"⟩
abbrev cX4_of : ByteArray := prog_1_method_6_code
def yX4_of : MethodName := ⟨RX4, "of", "(II)I"⟩
abbrev cX4_change : ByteArray := prog_1_method_7_code
def yX4_change : MethodName := ⟨RX4, "change", "(III)I"⟩
abbrev cX4_serve : ByteArray := prog_1_method_8_code
def yX4_serve : MethodName := ⟨RX4, "serve", "(I)I"⟩
abbrev cX4_act : ByteArray := prog_1_method_9_code
def yX4_act : MethodName := ⟨RX4, "act", "(I)I"⟩
abbrev cX4_go : ByteArray := prog_1_method_10_code
def yX4_go : MethodName := ⟨RX4, "go", "(I)I"⟩
abbrev cX4_now : ByteArray := prog_1_method_11_code
def yX4_now : MethodName := ⟨RX4, "now", "(I)I"⟩
abbrev cX4_ahead : ByteArray := prog_1_method_12_code
def yX4_ahead : MethodName := ⟨RX4, "ahead", "(III)I"⟩
abbrev cX4_mood : ByteArray := prog_1_method_13_code
def yX4_mood : MethodName := ⟨RX4, "mood", "(I)I"⟩
abbrev cX4_splits : ByteArray := prog_1_method_14_code
def yX4_splits : MethodName := ⟨RX4, "splits", "(I)I"⟩
abbrev cX4_ready : ByteArray := prog_1_method_15_code
def yX4_ready : MethodName := ⟨RX4, "ready", "(II)I"⟩
abbrev cX4_peace : ByteArray := prog_1_method_16_code
def yX4_peace : MethodName := ⟨RX4, "peace", "(I)I"⟩
abbrev cX4_deedFor : ByteArray := prog_1_method_17_code
def yX4_deedFor : MethodName := ⟨RX4, "deedFor", "(II)I"⟩
abbrev cX4_grudgeFor : ByteArray := prog_1_method_18_code
def yX4_grudgeFor : MethodName := ⟨RX4, "grudgeFor", "(II)I"⟩
abbrev cX4_kindFor : ByteArray := prog_1_method_19_code
def yX4_kindFor : MethodName := ⟨RX4, "kindFor", "(II)I"⟩
abbrev cX4_best : ByteArray := prog_1_method_20_code
def yX4_best : MethodName := ⟨RX4, "best", "(I)I"⟩
abbrev cX4_takeOff : ByteArray := prog_1_method_21_code
def yX4_takeOff : MethodName := ⟨RX4, "takeOff", "(I)I"⟩
abbrev cX4_fits : ByteArray := prog_1_method_22_code
def yX4_fits : MethodName := ⟨RX4, "fits", "(II)I"⟩
abbrev cX4_kinds : ByteArray := prog_1_method_23_code
def yX4_kinds : MethodName := ⟨RX4, "kinds", "(II)I"⟩
abbrev cX4_service : ByteArray := prog_1_method_24_code
def yX4_service : MethodName := ⟨RX4, "service", "(I)I"⟩
abbrev cX4_odds : ByteArray := prog_1_method_25_code
def yX4_odds : MethodName := ⟨RX4, "odds", "(III)J"⟩
abbrev cX4_seed : ByteArray := prog_1_method_26_code
def yX4_seed : MethodName := ⟨RX4, "seed", "(I)I"⟩
abbrev cX4_feed : ByteArray := prog_1_method_27_code
def yX4_feed : MethodName := ⟨RX4, "feed", "(II)I"⟩
abbrev cX4_wipe : ByteArray := prog_1_method_28_code
def yX4_wipe : MethodName := ⟨RX4, "wipe", "()I"⟩
abbrev cX4_text : ByteArray := prog_1_method_29_code
def yX4_text : MethodName := ⟨RX4, "text", "()I"⟩
abbrev cX4_hold : ByteArray := prog_1_method_30_code
def yX4_hold : MethodName := ⟨RX4, "hold", "(II)I"⟩
abbrev cX4_as : ByteArray := prog_1_method_31_code
def yX4_as : MethodName := ⟨RX4, "as", "(II)I"⟩
abbrev cX4_sheet : ByteArray := prog_1_method_32_code
def yX4_sheet : MethodName := ⟨RX4, "sheet", "(III)I"⟩
abbrev cX4_write : ByteArray := prog_1_method_33_code
def yX4_write : MethodName := ⟨RX4, "write", "(III)I"⟩
abbrev cX4_copy : ByteArray := prog_1_method_34_code
def yX4_copy : MethodName := ⟨RX4, "copy", "(IIIII)I"⟩
abbrev cX4_load : ByteArray := prog_1_method_35_code
def yX4_load : MethodName := ⟨RX4, "load", "(I)I"⟩
abbrev cX4_judge : ByteArray := prog_1_method_36_code
def yX4_judge : MethodName := ⟨RX4, "judge", "(I)I"⟩
abbrev cX4_image : ByteArray := prog_1_method_37_code
def yX4_image : MethodName := ⟨RX4, "image", "()I"⟩
abbrev cX4_undo : ByteArray := prog_1_method_38_code
def yX4_undo : MethodName := ⟨RX4, "undo", "()I"⟩
abbrev cX4_tear : ByteArray := prog_1_method_39_code
def yX4_tear : MethodName := ⟨RX4, "tear", "()I"⟩
abbrev cX4_count : ByteArray := prog_1_method_40_code
def yX4_count : MethodName := ⟨RX4, "count", "(I)I"⟩
abbrev cX4_status : ByteArray := prog_1_method_41_code
def yX4_status : MethodName := ⟨RX4, "status", "(I)I"⟩
abbrev cX4_found : ByteArray := prog_1_method_42_code
def yX4_found : MethodName := ⟨RX4, "found", "(I)I"⟩
abbrev cX4_isDish : ByteArray := prog_1_method_43_code
def yX4_isDish : MethodName := ⟨RX4, "isDish", "(I)Z"⟩
abbrev cX4_faultOfSheet : ByteArray := prog_1_method_44_code
def yX4_faultOfSheet : MethodName := ⟨RX4, "faultOfSheet", "(I)I"⟩
abbrev cX4_faultOfTold : ByteArray := prog_1_method_45_code
def yX4_faultOfTold : MethodName := ⟨RX4, "faultOfTold", "(II)I"⟩
abbrev cX4_draftGoesAs : ByteArray := prog_1_method_46_code
def yX4_draftGoesAs : MethodName := ⟨RX4, "draftGoesAs", "(LQuarrelSauce$Sheet;)Z"⟩
abbrev cX4_within : ByteArray := prog_1_method_47_code
def yX4_within : MethodName := ⟨RX4, "within", "(III)Z"⟩
abbrev cX4_isPlace : ByteArray := prog_1_method_48_code
def yX4_isPlace : MethodName := ⟨RX4, "isPlace", "(I)Z"⟩
abbrev cX4_isDeed : ByteArray := prog_1_method_49_code
def yX4_isDeed : MethodName := ⟨RX4, "isDeed", "(I)Z"⟩
abbrev cX4_isKind : ByteArray := prog_1_method_50_code
def yX4_isKind : MethodName := ⟨RX4, "isKind", "(I)Z"⟩
abbrev cX4_isSpot : ByteArray := prog_1_method_51_code
def yX4_isSpot : MethodName := ⟨RX4, "isSpot", "(I)Z"⟩
abbrev cX4_isSheet : ByteArray := prog_1_method_52_code
def yX4_isSheet : MethodName := ⟨RX4, "isSheet", "(I)Z"⟩
abbrev cX4_mostOf : ByteArray := prog_1_method_53_code
def yX4_mostOf : MethodName := ⟨RX4, "mostOf", "(I)I"⟩
abbrev cX4_grudgeAfter : ByteArray := prog_1_method_54_code
def yX4_grudgeAfter : MethodName := ⟨RX4, "grudgeAfter", "(II)I"⟩
abbrev cX4_isUnder : ByteArray := prog_1_method_55_code
def yX4_isUnder : MethodName := ⟨RX4, "isUnder", "(II)Z"⟩
abbrev cX4_commonDivisor : ByteArray := prog_1_method_56_code
def yX4_commonDivisor : MethodName := ⟨RX4, "commonDivisor", "(II)I"⟩
abbrev cX4_power : ByteArray := prog_1_method_57_code
def yX4_power : MethodName := ⟨RX4, "power", "(II)J"⟩
def RX5 : String := "QuarrelSauceModel"
def TX5 : u_T := fun k => match k with
  | 0 => ("QuarrelSauceModel", "m", "[I", true)
  | 1 => ("QuarrelSauceModel", "kept", "[I", true)
  | 2 => ("QuarrelSauceModel", "was", "[I", true)
  | 3 => ("QuarrelSauceModel", "isKept", "Z", false)
  | 4 => ("QuarrelSauceModel", "found", "[I", true)
  | 5 => ("QuarrelSauceModel", "bitsOf", "[I", true)
  | 6 => ("QuarrelSauceModel", "sizeOf", "[I", true)
  | 7 => ("QuarrelSauceModel", "cells", "[I", true)
  | 8 => ("QuarrelSauceModel", "tape", "[I", true)
  | 9 => ("QuarrelSauceModel", "taped", "I", false)
  | 10 => ("QuarrelSauceModel", "token", "I", false)
  | 11 => ("QuarrelSauceModel", "begin", "I", false)
  | 12 => ("QuarrelSauceModel", "at", "I", false)
  | 13 => ("QuarrelSauceModel", "value", "I", false)
  | _ => ("QuarrelSauceModel", "bad", "Z", false)
def tyX5 : Nat → FieldType := fun k => match k with
  | 0 => .array .int
  | 1 => .array .int
  | 2 => .array .int
  | 3 => .boolean
  | 4 => .array .int
  | 5 => .array .int
  | 6 => .array .int
  | 7 => .array .int
  | 8 => .array .int
  | 9 => .int
  | 10 => .int
  | 11 => .int
  | 12 => .int
  | 13 => .int
  | _ => .boolean
abbrev wsX50 : List Cond := u_ws RX5 TX5 15
theorem nmX5 : ∀ a, a < 15 → ∀ b, b < 15 → a ≠ b → (TX5 a).2.1 ≠ (TX5 b).2.1 := by decide +kernel
theorem tyX5_ok : ∀ k, k < 15 → parseFieldDescriptor (TX5 k).2.2.1 = some (tyX5 k) := by decide +kernel
abbrev cX5_init : ByteArray := prog_7_method_1_code
def yX5_init : MethodName := ⟨RX5, "<init>", "()V"⟩
abbrev cX5_finds : ByteArray := prog_7_method_2_code
def yX5_finds : MethodName := ⟨RX5, "finds", "(I)I"⟩
abbrev cX5_orNone : ByteArray := prog_7_method_3_code
def yX5_orNone : MethodName := ⟨RX5, "orNone", "(I)I"⟩
abbrev cX5_in : ByteArray := prog_7_method_4_code
def yX5_in : MethodName := ⟨RX5, "in", "(III)Z"⟩
abbrev cX5_held : ByteArray := prog_7_method_5_code
def yX5_held : MethodName := ⟨RX5, "held", "(III)I"⟩
abbrev cX5_copyAll : ByteArray := prog_7_method_6_code
def yX5_copyAll : MethodName := ⟨RX5, "copyAll", "([I[I)V"⟩
abbrev cX5_becomes : ByteArray := prog_7_method_7_code
def yX5_becomes : MethodName := ⟨RX5, "becomes", "(II)I"⟩
abbrev cX5_isDish : ByteArray := prog_7_method_8_code
def yX5_isDish : MethodName := ⟨RX5, "isDish", "(I)Z"⟩
abbrev cX5_isDeed : ByteArray := prog_7_method_9_code
def yX5_isDeed : MethodName := ⟨RX5, "isDeed", "(I)Z"⟩
abbrev cX5_it : ByteArray := prog_7_method_10_code
def yX5_it : MethodName := ⟨RX5, "it", "(II)I"⟩
abbrev cX5_put : ByteArray := prog_7_method_11_code
def yX5_put : MethodName := ⟨RX5, "put", "(III)V"⟩
abbrev cX5_bits : ByteArray := prog_7_method_12_code
def yX5_bits : MethodName := ⟨RX5, "bits", "(I)I"⟩
abbrev cX5_setOf : ByteArray := prog_7_method_13_code
def yX5_setOf : MethodName := ⟨RX5, "setOf", "(I)I"⟩
abbrev cX5_deedNow : ByteArray := prog_7_method_14_code
def yX5_deedNow : MethodName := ⟨RX5, "deedNow", "()I"⟩
abbrev cX5_needs : ByteArray := prog_7_method_15_code
def yX5_needs : MethodName := ⟨RX5, "needs", "(I)I"⟩
abbrev cX5_thickens : ByteArray := prog_7_method_16_code
def yX5_thickens : MethodName := ⟨RX5, "thickens", "(I)I"⟩
abbrev cX5_salts : ByteArray := prog_7_method_17_code
def yX5_salts : MethodName := ⟨RX5, "salts", "(I)I"⟩
abbrev cX5_burns : ByteArray := prog_7_method_18_code
def yX5_burns : MethodName := ⟨RX5, "burns", "(I)I"⟩
abbrev cX5_gives : ByteArray := prog_7_method_19_code
def yX5_gives : MethodName := ⟨RX5, "gives", "(I)I"⟩
abbrev cX5_isOn : ByteArray := prog_7_method_20_code
def yX5_isOn : MethodName := ⟨RX5, "isOn", "(I)Z"⟩
abbrev cX5_set : ByteArray := prog_7_method_21_code
def yX5_set : MethodName := ⟨RX5, "set", "(II)I"⟩
abbrev cX5_deed : ByteArray := prog_7_method_22_code
def yX5_deed : MethodName := ⟨RX5, "deed", "(II)I"⟩
abbrev cX5_listed : ByteArray := prog_7_method_23_code
def yX5_listed : MethodName := ⟨RX5, "listed", "(I)I"⟩
abbrev cX5_comes : ByteArray := prog_7_method_24_code
def yX5_comes : MethodName := ⟨RX5, "comes", "(IIIII)I"⟩
abbrev cX5_dish : ByteArray := prog_7_method_25_code
def yX5_dish : MethodName := ⟨RX5, "dish", "(II)I"⟩
abbrev cX5_of : ByteArray := prog_7_method_26_code
def yX5_of : MethodName := ⟨RX5, "of", "(II)I"⟩
abbrev cX5_mostOf : ByteArray := prog_7_method_27_code
def yX5_mostOf : MethodName := ⟨RX5, "mostOf", "(I)I"⟩
abbrev cX5_change : ByteArray := prog_7_method_28_code
def yX5_change : MethodName := ⟨RX5, "change", "(III)I"⟩
abbrev cX5_serves : ByteArray := prog_7_method_29_code
def yX5_serves : MethodName := ⟨RX5, "serves", "(I)I"⟩
abbrev cX5_serve : ByteArray := prog_7_method_30_code
def yX5_serve : MethodName := ⟨RX5, "serve", "(I)I"⟩
abbrev cX5_does : ByteArray := prog_7_method_31_code
def yX5_does : MethodName := ⟨RX5, "does", "(I)I"⟩
abbrev cX5_act : ByteArray := prog_7_method_32_code
def yX5_act : MethodName := ⟨RX5, "act", "(I)I"⟩
abbrev cX5_cooks : ByteArray := prog_7_method_33_code
def yX5_cooks : MethodName := ⟨RX5, "cooks", "(I)V"⟩
abbrev cX5_goes : ByteArray := prog_7_method_34_code
def yX5_goes : MethodName := ⟨RX5, "goes", "()V"⟩
abbrev cX5_goesFor : ByteArray := prog_7_method_35_code
def yX5_goesFor : MethodName := ⟨RX5, "goesFor", "(I)V"⟩
abbrev cX5_go : ByteArray := prog_7_method_36_code
def yX5_go : MethodName := ⟨RX5, "go", "(I)I"⟩
abbrev cX5_wouldSplit : ByteArray := prog_7_method_37_code
def yX5_wouldSplit : MethodName := ⟨RX5, "wouldSplit", "()I"⟩
abbrev cX5_allGive : ByteArray := prog_7_method_38_code
def yX5_allGive : MethodName := ⟨RX5, "allGive", "()I"⟩
abbrev cX5_finest : ByteArray := prog_7_method_39_code
def yX5_finest : MethodName := ⟨RX5, "finest", "()I"⟩
abbrev cX5_now : ByteArray := prog_7_method_40_code
def yX5_now : MethodName := ⟨RX5, "now", "(I)I"⟩
abbrev cX5_thinks : ByteArray := prog_7_method_41_code
def yX5_thinks : MethodName := ⟨RX5, "thinks", "()V"⟩
abbrev cX5_putsBack : ByteArray := prog_7_method_42_code
def yX5_putsBack : MethodName := ⟨RX5, "putsBack", "()V"⟩
abbrev cX5_ahead : ByteArray := prog_7_method_43_code
def yX5_ahead : MethodName := ⟨RX5, "ahead", "(III)I"⟩
abbrev cX5_mood : ByteArray := prog_7_method_44_code
def yX5_mood : MethodName := ⟨RX5, "mood", "(I)I"⟩
abbrev cX5_splits : ByteArray := prog_7_method_45_code
def yX5_splits : MethodName := ⟨RX5, "splits", "(I)I"⟩
abbrev cX5_ready : ByteArray := prog_7_method_46_code
def yX5_ready : MethodName := ⟨RX5, "ready", "(II)I"⟩
abbrev cX5_peace : ByteArray := prog_7_method_47_code
def yX5_peace : MethodName := ⟨RX5, "peace", "(I)I"⟩
abbrev cX5_deedFor : ByteArray := prog_7_method_48_code
def yX5_deedFor : MethodName := ⟨RX5, "deedFor", "(II)I"⟩
abbrev cX5_grudgeFor : ByteArray := prog_7_method_49_code
def yX5_grudgeFor : MethodName := ⟨RX5, "grudgeFor", "(II)I"⟩
abbrev cX5_kindFor : ByteArray := prog_7_method_50_code
def yX5_kindFor : MethodName := ⟨RX5, "kindFor", "(II)I"⟩
abbrev cX5_best : ByteArray := prog_7_method_51_code
def yX5_best : MethodName := ⟨RX5, "best", "(I)I"⟩
abbrev cX5_isSafe : ByteArray := prog_7_method_52_code
def yX5_isSafe : MethodName := ⟨RX5, "isSafe", "(II)Z"⟩
abbrev cX5_takeOff : ByteArray := prog_7_method_53_code
def yX5_takeOff : MethodName := ⟨RX5, "takeOff", "(I)I"⟩
abbrev cX5_isSheet : ByteArray := prog_7_method_54_code
def yX5_isSheet : MethodName := ⟨RX5, "isSheet", "(I)Z"⟩
abbrev cX5_notThere : ByteArray := prog_7_method_55_code
def yX5_notThere : MethodName := ⟨RX5, "notThere", "(I)I"⟩
abbrev cX5_notAsked : ByteArray := prog_7_method_56_code
def yX5_notAsked : MethodName := ⟨RX5, "notAsked", "(II)I"⟩
abbrev cX5_isTold : ByteArray := prog_7_method_57_code
def yX5_isTold : MethodName := ⟨RX5, "isTold", "(II)Z"⟩
abbrev cX5_fits : ByteArray := prog_7_method_58_code
def yX5_fits : MethodName := ⟨RX5, "fits", "(II)I"⟩
abbrev cX5_kinds : ByteArray := prog_7_method_59_code
def yX5_kinds : MethodName := ⟨RX5, "kinds", "(II)I"⟩
abbrev cX5_draw : ByteArray := prog_7_method_60_code
def yX5_draw : MethodName := ⟨RX5, "draw", "()I"⟩
abbrev cX5_service : ByteArray := prog_7_method_61_code
def yX5_service : MethodName := ⟨RX5, "service", "(I)I"⟩
abbrev cX5_odds : ByteArray := prog_7_method_62_code
def yX5_odds : MethodName := ⟨RX5, "odds", "(III)J"⟩
abbrev cX5_seed : ByteArray := prog_7_method_63_code
def yX5_seed : MethodName := ⟨RX5, "seed", "(I)I"⟩
abbrev cX5_feed : ByteArray := prog_7_method_64_code
def yX5_feed : MethodName := ⟨RX5, "feed", "(II)I"⟩
abbrev cX5_wipe : ByteArray := prog_7_method_65_code
def yX5_wipe : MethodName := ⟨RX5, "wipe", "()I"⟩
abbrev cX5_isByte : ByteArray := prog_7_method_66_code
def yX5_isByte : MethodName := ⟨RX5, "isByte", "(III)Z"⟩
abbrev cX5_isName : ByteArray := prog_7_method_67_code
def yX5_isName : MethodName := ⟨RX5, "isName", "(II)Z"⟩
abbrev cX5_wordHere : ByteArray := prog_7_method_68_code
def yX5_wordHere : MethodName := ⟨RX5, "wordHere", "()I"⟩
abbrev cX5_reads : ByteArray := prog_7_method_69_code
def yX5_reads : MethodName := ⟨RX5, "reads", "()V"⟩
abbrev cX5_takes : ByteArray := prog_7_method_70_code
def yX5_takes : MethodName := ⟨RX5, "takes", "(I)Z"⟩
abbrev cX5_number : ByteArray := prog_7_method_71_code
def yX5_number : MethodName := ⟨RX5, "number", "(II)I"⟩
abbrev cX5_perhaps : ByteArray := prog_7_method_72_code
def yX5_perhaps : MethodName := ⟨RX5, "perhaps", "(IIII)I"⟩
abbrev cX5_dishItem : ByteArray := prog_7_method_73_code
def yX5_dishItem : MethodName := ⟨RX5, "dishItem", "()V"⟩
abbrev cX5_deedItem : ByteArray := prog_7_method_74_code
def yX5_deedItem : MethodName := ⟨RX5, "deedItem", "()V"⟩
abbrev cX5_item : ByteArray := prog_7_method_75_code
def yX5_item : MethodName := ⟨RX5, "item", "()V"⟩
abbrev cX5_text : ByteArray := prog_7_method_76_code
def yX5_text : MethodName := ⟨RX5, "text", "()I"⟩
abbrev cX5_hold : ByteArray := prog_7_method_77_code
def yX5_hold : MethodName := ⟨RX5, "hold", "(II)I"⟩
abbrev cX5_isUnder : ByteArray := prog_7_method_78_code
def yX5_isUnder : MethodName := ⟨RX5, "isUnder", "(II)Z"⟩
abbrev cX5_as : ByteArray := prog_7_method_79_code
def yX5_as : MethodName := ⟨RX5, "as", "(II)I"⟩
abbrev cX5_sheet : ByteArray := prog_7_method_80_code
def yX5_sheet : MethodName := ⟨RX5, "sheet", "(III)I"⟩
abbrev cX5_write : ByteArray := prog_7_method_81_code
def yX5_write : MethodName := ⟨RX5, "write", "(III)I"⟩
abbrev cX5_notCopied : ByteArray := prog_7_method_82_code
def yX5_notCopied : MethodName := ⟨RX5, "notCopied", "(IIIII)I"⟩
abbrev cX5_copy : ByteArray := prog_7_method_83_code
def yX5_copy : MethodName := ⟨RX5, "copy", "(IIIII)I"⟩
abbrev cX5_load : ByteArray := prog_7_method_84_code
def yX5_load : MethodName := ⟨RX5, "load", "(I)I"⟩
abbrev cX5_judge : ByteArray := prog_7_method_85_code
def yX5_judge : MethodName := ⟨RX5, "judge", "(I)I"⟩
abbrev cX5_image : ByteArray := prog_7_method_86_code
def yX5_image : MethodName := ⟨RX5, "image", "()I"⟩
abbrev cX5_undo : ByteArray := prog_7_method_87_code
def yX5_undo : MethodName := ⟨RX5, "undo", "()I"⟩
abbrev cX5_tear : ByteArray := prog_7_method_88_code
def yX5_tear : MethodName := ⟨RX5, "tear", "()I"⟩
abbrev cX5_manyHeld : ByteArray := prog_7_method_89_code
def yX5_manyHeld : MethodName := ⟨RX5, "manyHeld", "()I"⟩
abbrev cX5_count : ByteArray := prog_7_method_90_code
def yX5_count : MethodName := ⟨RX5, "count", "(I)I"⟩
abbrev cX5_status : ByteArray := prog_7_method_91_code
def yX5_status : MethodName := ⟨RX5, "status", "(I)I"⟩
def RJx145de : String := "java/io/Serializable"
def TJx145de : u_T := fun k => match k with
  | _ => ("", "", "", false)
def tyJx145de : Nat → FieldType := fun k => match k with
  | _ => .int
theorem nmJx145de : ∀ a, a < 0 → ∀ b, b < 0 → a ≠ b → (TJx145de a).2.1 ≠ (TJx145de b).2.1 := by decide +kernel
theorem tyJx145de_ok : ∀ k, k < 0 → parseFieldDescriptor (TJx145de k).2.2.1 = some (tyJx145de k) := by decide +kernel
def RJx9f9b0 : String := "java/lang/CharSequence"
def TJx9f9b0 : u_T := fun k => match k with
  | _ => ("", "", "", false)
def tyJx9f9b0 : Nat → FieldType := fun k => match k with
  | _ => .int
theorem nmJx9f9b0 : ∀ a, a < 0 → ∀ b, b < 0 → a ≠ b → (TJx9f9b0 a).2.1 ≠ (TJx9f9b0 b).2.1 := by decide +kernel
theorem tyJx9f9b0_ok : ∀ k, k < 0 → parseFieldDescriptor (TJx9f9b0 k).2.2.1 = some (tyJx9f9b0 k) := by decide +kernel
def RJxb160c : String := "java/lang/Comparable"
def TJxb160c : u_T := fun k => match k with
  | _ => ("", "", "", false)
def tyJxb160c : Nat → FieldType := fun k => match k with
  | _ => .int
theorem nmJxb160c : ∀ a, a < 0 → ∀ b, b < 0 → a ≠ b → (TJxb160c a).2.1 ≠ (TJxb160c b).2.1 := by decide +kernel
theorem tyJxb160c_ok : ∀ k, k < 0 → parseFieldDescriptor (TJxb160c k).2.2.1 = some (tyJxb160c k) := by decide +kernel
def RJ6 : String := "java/lang/Integer"
def TJ6 : u_T := fun k => match k with
  | _ => ("", "", "", false)
def tyJ6 : Nat → FieldType := fun k => match k with
  | _ => .int
abbrev wsJ60 : List Cond := u_ws RJ6 TJ6 0
theorem nmJ6 : ∀ a, a < 0 → ∀ b, b < 0 → a ≠ b → (TJ6 a).2.1 ≠ (TJ6 b).2.1 := by decide +kernel
theorem tyJ6_ok : ∀ k, k < 0 → parseFieldDescriptor (TJ6 k).2.2.1 = some (tyJ6 k) := by decide +kernel
abbrev cJ6_bitCount_0f7a4 : ByteArray := prog_8_method_49_code
def yJ6_bitCount_0f7a4 : MethodName := ⟨RJ6, "bitCount", "(I)I"⟩
def RJ9 : String := "java/lang/Math"
def TJ9 : u_T := fun k => match k with
  | _ => ("", "", "", false)
def tyJ9 : Nat → FieldType := fun k => match k with
  | _ => .int
abbrev wsJ90 : List Cond := u_ws RJ9 TJ9 0
theorem nmJ9 : ∀ a, a < 0 → ∀ b, b < 0 → a ≠ b → (TJ9 a).2.1 ≠ (TJ9 b).2.1 := by decide +kernel
theorem tyJ9_ok : ∀ k, k < 0 → parseFieldDescriptor (TJ9 k).2.2.1 = some (tyJ9 k) := by decide +kernel
abbrev cJ9_abs_0f7a4 : ByteArray := prog_9_method_59_code
def yJ9_abs_0f7a4 : MethodName := ⟨RJ9, "abs", "(I)I"⟩
abbrev cJ9_max_7cf53 : ByteArray := prog_9_method_65_code
def yJ9_max_7cf53 : MethodName := ⟨RJ9, "max", "(II)I"⟩
abbrev cJ9_min_7cf53 : ByteArray := prog_9_method_69_code
def yJ9_min_7cf53 : MethodName := ⟨RJ9, "min", "(II)I"⟩
def RJ0 : String := "java/lang/String"
def TJ0 : u_T := fun k => match k with
  | _ => ("", "", "", false)
def tyJ0 : Nat → FieldType := fun k => match k with
  | _ => .int
abbrev wsJ00 : List Cond := u_ws RJ0 TJ0 0
theorem nmJ0 : ∀ a, a < 0 → ∀ b, b < 0 → a ≠ b → (TJ0 a).2.1 ≠ (TJ0 b).2.1 := by decide +kernel
theorem tyJ0_ok : ∀ k, k < 0 → parseFieldDescriptor (TJ0 k).2.2.1 = some (tyJ0 k) := by decide +kernel
abbrev cJ0_length_8abf5 : ByteArray := prog_10_method_54_code
def yJ0_length_8abf5 : MethodName := ⟨RJ0, "length", "()I"⟩
abbrev cJ0_charAt_5068e : ByteArray := prog_10_method_56_code
def yJ0_charAt_5068e : MethodName := ⟨RJ0, "charAt", "(I)C"⟩
abbrev cJ0_coder_7d493 : ByteArray := prog_10_method_152_code
def yJ0_coder_7d493 : MethodName := ⟨RJ0, "coder", "()B"⟩
abbrev cJ0_isLatin1_aae02 : ByteArray := prog_10_method_154_code
def yJ0_isLatin1_aae02 : MethodName := ⟨RJ0, "isLatin1", "()Z"⟩
abbrev cJ0_checkIndex_df160 : ByteArray := prog_10_method_155_code
def yJ0_checkIndex_df160 : MethodName := ⟨RJ0, "checkIndex", "(II)V"⟩
def RJ1 : String := "java/lang/StringLatin1"
def TJ1 : u_T := fun k => match k with
  | _ => ("", "", "", false)
def tyJ1 : Nat → FieldType := fun k => match k with
  | _ => .int
abbrev wsJ10 : List Cond := u_ws RJ1 TJ1 0
theorem nmJ1 : ∀ a, a < 0 → ∀ b, b < 0 → a ≠ b → (TJ1 a).2.1 ≠ (TJ1 b).2.1 := by decide +kernel
theorem tyJ1_ok : ∀ k, k < 0 → parseFieldDescriptor (TJ1 k).2.2.1 = some (tyJ1 k) := by decide +kernel
abbrev cJ1_charAt_3b067 : ByteArray := prog_11_method_2_code
def yJ1_charAt_3b067 : MethodName := ⟨RJ1, "charAt", "([BI)C"⟩
def RJ2 : String := "java/lang/StringUTF16"
def TJ2 : u_T := fun k => match k with
  | _ => ("", "", "", false)
def tyJ2 : Nat → FieldType := fun k => match k with
  | _ => .int
abbrev wsJ20 : List Cond := u_ws RJ2 TJ2 0
theorem nmJ2 : ∀ a, a < 0 → ∀ b, b < 0 → a ≠ b → (TJ2 a).2.1 ≠ (TJ2 b).2.1 := by decide +kernel
theorem tyJ2_ok : ∀ k, k < 0 → parseFieldDescriptor (TJ2 k).2.2.1 = some (tyJ2 k) := by decide +kernel
abbrev cJ2_getChar_3b067 : ByteArray := prog_12_method_5_code
def yJ2_getChar_3b067 : MethodName := ⟨RJ2, "getChar", "([BI)C"⟩
abbrev cJ2_length_9d52b : ByteArray := prog_12_method_6_code
def yJ2_length_9d52b : MethodName := ⟨RJ2, "length", "([B)I"⟩
abbrev cJ2_charAt_3b067 : ByteArray := prog_12_method_83_code
def yJ2_charAt_3b067 : MethodName := ⟨RJ2, "charAt", "([BI)C"⟩
abbrev cJ2_checkIndex_2214a : ByteArray := prog_12_method_91_code
def yJ2_checkIndex_2214a : MethodName := ⟨RJ2, "checkIndex", "(I[B)V"⟩
def RJ10 : String := "java/lang/System"
def TJ10 : u_T := fun k => match k with
  | _ => ("", "", "", false)
def tyJ10 : Nat → FieldType := fun k => match k with
  | _ => .int
abbrev wsJ100 : List Cond := u_ws RJ10 TJ10 0
theorem nmJ10 : ∀ a, a < 0 → ∀ b, b < 0 → a ≠ b → (TJ10 a).2.1 ≠ (TJ10 b).2.1 := by decide +kernel
theorem tyJ10_ok : ∀ k, k < 0 → parseFieldDescriptor (TJ10 k).2.2.1 = some (tyJ10 k) := by decide +kernel
def RJxfd54e : String := "java/lang/constant/Constable"
def TJxfd54e : u_T := fun k => match k with
  | _ => ("", "", "", false)
def tyJxfd54e : Nat → FieldType := fun k => match k with
  | _ => .int
theorem nmJxfd54e : ∀ a, a < 0 → ∀ b, b < 0 → a ≠ b → (TJxfd54e a).2.1 ≠ (TJxfd54e b).2.1 := by decide +kernel
theorem tyJxfd54e_ok : ∀ k, k < 0 → parseFieldDescriptor (TJxfd54e k).2.2.1 = some (tyJxfd54e k) := by decide +kernel
def RJx3cf43 : String := "java/lang/constant/ConstantDesc"
def TJx3cf43 : u_T := fun k => match k with
  | _ => ("", "", "", false)
def tyJx3cf43 : Nat → FieldType := fun k => match k with
  | _ => .int
theorem nmJx3cf43 : ∀ a, a < 0 → ∀ b, b < 0 → a ≠ b → (TJx3cf43 a).2.1 ≠ (TJx3cf43 b).2.1 := by decide +kernel
theorem tyJx3cf43_ok : ∀ k, k < 0 → parseFieldDescriptor (TJx3cf43 k).2.2.1 = some (tyJx3cf43 k) := by decide +kernel
def RJ7 : String := "java/util/Arrays"
def TJ7 : u_T := fun k => match k with
  | _ => ("", "", "", false)
def tyJ7 : Nat → FieldType := fun k => match k with
  | _ => .int
abbrev wsJ70 : List Cond := u_ws RJ7 TJ7 0
theorem nmJ7 : ∀ a, a < 0 → ∀ b, b < 0 → a ≠ b → (TJ7 a).2.1 ≠ (TJ7 b).2.1 := by decide +kernel
theorem tyJ7_ok : ∀ k, k < 0 → parseFieldDescriptor (TJ7 k).2.2.1 = some (tyJ7 k) := by decide +kernel
abbrev cJ7_fill_53178 : ByteArray := prog_14_method_103_code
def yJ7_fill_53178 : MethodName := ⟨RJ7, "fill", "([II)V"⟩
def RJ3 : String := "jdk/internal/util/Preconditions"
def TJ3 : u_T := fun k => match k with
  | _ => ("", "", "", false)
def tyJ3 : Nat → FieldType := fun k => match k with
  | _ => .int
abbrev wsJ30 : List Cond := u_ws RJ3 TJ3 0
theorem nmJ3 : ∀ a, a < 0 → ∀ b, b < 0 → a ≠ b → (TJ3 a).2.1 ≠ (TJ3 b).2.1 := by decide +kernel
theorem tyJ3_ok : ∀ k, k < 0 → parseFieldDescriptor (TJ3 k).2.2.1 = some (tyJ3 k) := by decide +kernel
abbrev cJ3_checkIndex_8e157 : ByteArray := prog_15_method_11_code
def yJ3_checkIndex_8e157 : MethodName := ⟨RJ3, "checkIndex", "(IILjava/util/function/BiFunction;)I"⟩
def RL : String := "QuarrelSauceLaw"
abbrev cL_law : ByteArray := code
def yL_law : MethodName := ⟨RL, "law", "([I)Z"⟩
abbrev vwCl : List vw_C := [(RX0, TX0, 6), (RX1, TX1, 9), (RX2, TX2, 3), (RX3, TX3, 5), (RX4, TX4, 7), (RX5, TX5, 15)]
end
section
theorem dX0_init_0 : decode cX0_init 0 = .ok (.aload_n 0, 1) := by decide +kernel
theorem dX0_init_1 : decode cX0_init 1 = .ok (.invokespecial 3, 3) := by decide +kernel
theorem dX0_init_4 : decode cX0_init 4 = .ok (.return_, 1) := by decide +kernel
theorem dX0_renew_0 : decode cX0_renew 0 = .ok (.aload_n 0, 1) := by decide +kernel
theorem dX0_renew_1 : decode cX0_renew 1 = .ok (.iload_n 1, 1) := by decide +kernel
theorem dX0_renew_2 : decode cX0_renew 2 = .ok (.putfield 9, 3) := by decide +kernel
theorem dX0_renew_5 : decode cX0_renew 5 = .ok (.aload_n 0, 1) := by decide +kernel
theorem dX0_renew_6 : decode cX0_renew 6 = .ok (.bipush 10, 2) := by decide +kernel
theorem dX0_renew_8 : decode cX0_renew 8 = .ok (.putfield 15, 3) := by decide +kernel
theorem dX0_renew_11 : decode cX0_renew 11 = .ok (.aload_n 0, 1) := by decide +kernel
theorem dX0_renew_12 : decode cX0_renew 12 = .ok (.bipush 10, 2) := by decide +kernel
theorem dX0_renew_14 : decode cX0_renew 14 = .ok (.putfield 18, 3) := by decide +kernel
theorem dX0_renew_17 : decode cX0_renew 17 = .ok (.aload_n 0, 1) := by decide +kernel
theorem dX0_renew_18 : decode cX0_renew 18 = .ok (.iconst 0, 1) := by decide +kernel
theorem dX0_renew_19 : decode cX0_renew 19 = .ok (.putfield 21, 3) := by decide +kernel
theorem dX0_renew_22 : decode cX0_renew 22 = .ok (.aload_n 0, 1) := by decide +kernel
theorem dX0_renew_23 : decode cX0_renew 23 = .ok (.iconst 0, 1) := by decide +kernel
theorem dX0_renew_24 : decode cX0_renew 24 = .ok (.putfield 24, 3) := by decide +kernel
theorem dX0_renew_27 : decode cX0_renew 27 = .ok (.aload_n 0, 1) := by decide +kernel
theorem dX0_renew_28 : decode cX0_renew 28 = .ok (.iconst 0, 1) := by decide +kernel
theorem dX0_renew_29 : decode cX0_renew 29 = .ok (.putfield 27, 3) := by decide +kernel
theorem dX0_renew_32 : decode cX0_renew 32 = .ok (.return_, 1) := by decide +kernel
theorem dX0_take_0 : decode cX0_take 0 = .ok (.aload_n 0, 1) := by decide +kernel
theorem dX0_take_1 : decode cX0_take 1 = .ok (.aload_n 1, 1) := by decide +kernel
theorem dX0_take_2 : decode cX0_take 2 = .ok (.getfield 9, 3) := by decide +kernel
theorem dX0_take_5 : decode cX0_take 5 = .ok (.putfield 9, 3) := by decide +kernel
theorem dX0_take_8 : decode cX0_take 8 = .ok (.aload_n 0, 1) := by decide +kernel
theorem dX0_take_9 : decode cX0_take 9 = .ok (.aload_n 1, 1) := by decide +kernel
theorem dX0_take_10 : decode cX0_take 10 = .ok (.getfield 15, 3) := by decide +kernel
theorem dX0_take_13 : decode cX0_take 13 = .ok (.putfield 15, 3) := by decide +kernel
theorem dX0_take_16 : decode cX0_take 16 = .ok (.aload_n 0, 1) := by decide +kernel
theorem dX0_take_17 : decode cX0_take 17 = .ok (.aload_n 1, 1) := by decide +kernel
theorem dX0_take_18 : decode cX0_take 18 = .ok (.getfield 18, 3) := by decide +kernel
theorem dX0_take_21 : decode cX0_take 21 = .ok (.putfield 18, 3) := by decide +kernel
theorem dX0_take_24 : decode cX0_take 24 = .ok (.aload_n 0, 1) := by decide +kernel
theorem dX0_take_25 : decode cX0_take 25 = .ok (.aload_n 1, 1) := by decide +kernel
theorem dX0_take_26 : decode cX0_take 26 = .ok (.getfield 21, 3) := by decide +kernel
theorem dX0_take_29 : decode cX0_take 29 = .ok (.putfield 21, 3) := by decide +kernel
theorem dX0_take_32 : decode cX0_take 32 = .ok (.aload_n 0, 1) := by decide +kernel
theorem dX0_take_33 : decode cX0_take 33 = .ok (.aload_n 1, 1) := by decide +kernel
theorem dX0_take_34 : decode cX0_take 34 = .ok (.getfield 24, 3) := by decide +kernel
theorem dX0_take_37 : decode cX0_take 37 = .ok (.putfield 24, 3) := by decide +kernel
theorem dX0_take_40 : decode cX0_take 40 = .ok (.aload_n 0, 1) := by decide +kernel
theorem dX0_take_41 : decode cX0_take 41 = .ok (.aload_n 1, 1) := by decide +kernel
theorem dX0_take_42 : decode cX0_take 42 = .ok (.getfield 27, 3) := by decide +kernel
theorem dX0_take_45 : decode cX0_take 45 = .ok (.putfield 27, 3) := by decide +kernel
theorem dX0_take_48 : decode cX0_take 48 = .ok (.return_, 1) := by decide +kernel
theorem dX0_put_0 : decode cX0_put 0 = .ok (.iload_n 1, 1) := by decide +kernel
theorem dX0_put_1 : decode cX0_put 1 = .ok (.tableswitch 87 0 5 #[39, 47, 55, 63, 71, 79], 39) := by decide +kernel
theorem dX0_put_40 : decode cX0_put 40 = .ok (.aload_n 0, 1) := by decide +kernel
theorem dX0_put_41 : decode cX0_put 41 = .ok (.iload_n 2, 1) := by decide +kernel
theorem dX0_put_42 : decode cX0_put 42 = .ok (.putfield 9, 3) := by decide +kernel
theorem dX0_put_45 : decode cX0_put 45 = .ok (.goto 43, 3) := by decide +kernel
theorem dX0_put_48 : decode cX0_put 48 = .ok (.aload_n 0, 1) := by decide +kernel
theorem dX0_put_49 : decode cX0_put 49 = .ok (.iload_n 2, 1) := by decide +kernel
theorem dX0_put_50 : decode cX0_put 50 = .ok (.putfield 15, 3) := by decide +kernel
theorem dX0_put_53 : decode cX0_put 53 = .ok (.goto 35, 3) := by decide +kernel
theorem dX0_put_56 : decode cX0_put 56 = .ok (.aload_n 0, 1) := by decide +kernel
theorem dX0_put_57 : decode cX0_put 57 = .ok (.iload_n 2, 1) := by decide +kernel
theorem dX0_put_58 : decode cX0_put 58 = .ok (.putfield 18, 3) := by decide +kernel
theorem dX0_put_61 : decode cX0_put 61 = .ok (.goto 27, 3) := by decide +kernel
theorem dX0_put_64 : decode cX0_put 64 = .ok (.aload_n 0, 1) := by decide +kernel
theorem dX0_put_65 : decode cX0_put 65 = .ok (.iload_n 2, 1) := by decide +kernel
theorem dX0_put_66 : decode cX0_put 66 = .ok (.putfield 21, 3) := by decide +kernel
theorem dX0_put_69 : decode cX0_put 69 = .ok (.goto 19, 3) := by decide +kernel
theorem dX0_put_72 : decode cX0_put 72 = .ok (.aload_n 0, 1) := by decide +kernel
theorem dX0_put_73 : decode cX0_put 73 = .ok (.iload_n 2, 1) := by decide +kernel
theorem dX0_put_74 : decode cX0_put 74 = .ok (.putfield 24, 3) := by decide +kernel
theorem dX0_put_77 : decode cX0_put 77 = .ok (.goto 11, 3) := by decide +kernel
theorem dX0_put_80 : decode cX0_put 80 = .ok (.aload_n 0, 1) := by decide +kernel
theorem dX0_put_81 : decode cX0_put 81 = .ok (.iload_n 2, 1) := by decide +kernel
theorem dX0_put_82 : decode cX0_put 82 = .ok (.putfield 27, 3) := by decide +kernel
theorem dX0_put_85 : decode cX0_put 85 = .ok (.goto 3, 3) := by decide +kernel
theorem dX0_put_88 : decode cX0_put 88 = .ok (.return_, 1) := by decide +kernel
theorem dX0_isCooking_0 : decode cX0_isCooking 0 = .ok (.aload_n 0, 1) := by decide +kernel
theorem dX0_isCooking_1 : decode cX0_isCooking 1 = .ok (.getfield 24, 3) := by decide +kernel
theorem dX0_isCooking_4 : decode cX0_isCooking 4 = .ok (.ifCond .ne 14, 3) := by decide +kernel
theorem dX0_isCooking_7 : decode cX0_isCooking 7 = .ok (.aload_n 0, 1) := by decide +kernel
theorem dX0_isCooking_8 : decode cX0_isCooking 8 = .ok (.getfield 21, 3) := by decide +kernel
theorem dX0_isCooking_11 : decode cX0_isCooking 11 = .ok (.ifCond .ne 7, 3) := by decide +kernel
theorem dX0_isCooking_14 : decode cX0_isCooking 14 = .ok (.iconst 1, 1) := by decide +kernel
theorem dX0_isCooking_15 : decode cX0_isCooking 15 = .ok (.goto 4, 3) := by decide +kernel
theorem dX0_isCooking_18 : decode cX0_isCooking 18 = .ok (.iconst 0, 1) := by decide +kernel
theorem dX0_isCooking_19 : decode cX0_isCooking 19 = .ok (.ireturn, 1) := by decide +kernel
theorem dX0_needs_0 : decode cX0_needs 0 = .ok (.bipush 10, 2) := by decide +kernel
theorem dX0_needs_2 : decode cX0_needs 2 = .ok (.istore_n 2, 1) := by decide +kernel
theorem dX0_needs_3 : decode cX0_needs 3 = .ok (.iload_n 2, 1) := by decide +kernel
theorem dX0_needs_4 : decode cX0_needs 4 = .ok (.bipush 20, 2) := by decide +kernel
theorem dX0_needs_6 : decode cX0_needs 6 = .ok (.iadd, 1) := by decide +kernel
theorem dX0_needs_7 : decode cX0_needs 7 = .ok (.istore_n 3, 1) := by decide +kernel
theorem dX0_needs_8 : decode cX0_needs 8 = .ok (.aload_n 0, 1) := by decide +kernel
theorem dX0_needs_9 : decode cX0_needs 9 = .ok (.getfield 15, 3) := by decide +kernel
theorem dX0_needs_12 : decode cX0_needs 12 = .ok (.iconst 4, 1) := by decide +kernel
theorem dX0_needs_13 : decode cX0_needs 13 = .ok (.idiv, 1) := by decide +kernel
theorem dX0_needs_14 : decode cX0_needs 14 = .ok (.istore 4, 2) := by decide +kernel
theorem dX0_needs_16 : decode cX0_needs 16 = .ok (.aload_n 0, 1) := by decide +kernel
theorem dX0_needs_17 : decode cX0_needs 17 = .ok (.getfield 9, 3) := by decide +kernel
theorem dX0_needs_20 : decode cX0_needs 20 = .ok (.tableswitch 61 0 6 #[44, 46, 61, 52, 55, 61, 48], 44) := by decide +kernel
theorem dX0_needs_64 : decode cX0_needs 64 = .ok (.iload_n 2, 1) := by decide +kernel
theorem dX0_needs_65 : decode cX0_needs 65 = .ok (.ireturn, 1) := by decide +kernel
theorem dX0_needs_66 : decode cX0_needs 66 = .ok (.iload_n 3, 1) := by decide +kernel
theorem dX0_needs_67 : decode cX0_needs 67 = .ok (.ireturn, 1) := by decide +kernel
theorem dX0_needs_68 : decode cX0_needs 68 = .ok (.iload_n 3, 1) := by decide +kernel
theorem dX0_needs_69 : decode cX0_needs 69 = .ok (.iload_n 1, 1) := by decide +kernel
theorem dX0_needs_70 : decode cX0_needs 70 = .ok (.iadd, 1) := by decide +kernel
theorem dX0_needs_71 : decode cX0_needs 71 = .ok (.ireturn, 1) := by decide +kernel
theorem dX0_needs_72 : decode cX0_needs 72 = .ok (.iload 4, 2) := by decide +kernel
theorem dX0_needs_74 : decode cX0_needs 74 = .ok (.ireturn, 1) := by decide +kernel
theorem dX0_needs_75 : decode cX0_needs 75 = .ok (.iload 4, 2) := by decide +kernel
theorem dX0_needs_77 : decode cX0_needs 77 = .ok (.bipush 25, 2) := by decide +kernel
theorem dX0_needs_79 : decode cX0_needs 79 = .ok (.iadd, 1) := by decide +kernel
theorem dX0_needs_80 : decode cX0_needs 80 = .ok (.ireturn, 1) := by decide +kernel
theorem dX0_needs_81 : decode cX0_needs 81 = .ok (.iconst 0, 1) := by decide +kernel
theorem dX0_needs_82 : decode cX0_needs 82 = .ok (.ireturn, 1) := by decide +kernel
theorem dX0_thickens_0 : decode cX0_thickens 0 = .ok (.iload_n 1, 1) := by decide +kernel
theorem dX0_thickens_1 : decode cX0_thickens 1 = .ok (.bipush 10, 2) := by decide +kernel
theorem dX0_thickens_3 : decode cX0_thickens 3 = .ok (.idiv, 1) := by decide +kernel
theorem dX0_thickens_4 : decode cX0_thickens 4 = .ok (.istore 4, 2) := by decide +kernel
theorem dX0_thickens_6 : decode cX0_thickens 6 = .ok (.iload 4, 2) := by decide +kernel
theorem dX0_thickens_8 : decode cX0_thickens 8 = .ok (.iconst 1, 1) := by decide +kernel
theorem dX0_thickens_9 : decode cX0_thickens 9 = .ok (.iadd, 1) := by decide +kernel
theorem dX0_thickens_10 : decode cX0_thickens 10 = .ok (.istore 5, 2) := by decide +kernel
theorem dX0_thickens_12 : decode cX0_thickens 12 = .ok (.iload 4, 2) := by decide +kernel
theorem dX0_thickens_14 : decode cX0_thickens 14 = .ok (.iconst 2, 1) := by decide +kernel
theorem dX0_thickens_15 : decode cX0_thickens 15 = .ok (.idiv, 1) := by decide +kernel
theorem dX0_thickens_16 : decode cX0_thickens 16 = .ok (.istore 6, 2) := by decide +kernel
theorem dX0_thickens_18 : decode cX0_thickens 18 = .ok (.iload 6, 2) := by decide +kernel
theorem dX0_thickens_20 : decode cX0_thickens 20 = .ok (.iload_n 2, 1) := by decide +kernel
theorem dX0_thickens_21 : decode cX0_thickens 21 = .ok (.iadd, 1) := by decide +kernel
theorem dX0_thickens_22 : decode cX0_thickens 22 = .ok (.istore 7, 2) := by decide +kernel
theorem dX0_thickens_24 : decode cX0_thickens 24 = .ok (.aload_n 0, 1) := by decide +kernel
theorem dX0_thickens_25 : decode cX0_thickens 25 = .ok (.getfield 9, 3) := by decide +kernel
theorem dX0_thickens_28 : decode cX0_thickens 28 = .ok (.tableswitch 77 0 6 #[44, 47, 55, 58, 61, 77, 50], 44) := by decide +kernel
theorem dX0_thickens_72 : decode cX0_thickens 72 = .ok (.iload 4, 2) := by decide +kernel
theorem dX0_thickens_74 : decode cX0_thickens 74 = .ok (.ireturn, 1) := by decide +kernel
theorem dX0_thickens_75 : decode cX0_thickens 75 = .ok (.iload 5, 2) := by decide +kernel
theorem dX0_thickens_77 : decode cX0_thickens 77 = .ok (.ireturn, 1) := by decide +kernel
theorem dX0_thickens_78 : decode cX0_thickens 78 = .ok (.iconst 2, 1) := by decide +kernel
theorem dX0_thickens_79 : decode cX0_thickens 79 = .ok (.iload 5, 2) := by decide +kernel
theorem dX0_thickens_81 : decode cX0_thickens 81 = .ok (.imul, 1) := by decide +kernel
theorem dX0_thickens_82 : decode cX0_thickens 82 = .ok (.ireturn, 1) := by decide +kernel
theorem dX0_thickens_83 : decode cX0_thickens 83 = .ok (.iload 6, 2) := by decide +kernel
theorem dX0_thickens_85 : decode cX0_thickens 85 = .ok (.ireturn, 1) := by decide +kernel
theorem dX0_thickens_86 : decode cX0_thickens 86 = .ok (.iload 7, 2) := by decide +kernel
theorem dX0_thickens_88 : decode cX0_thickens 88 = .ok (.ireturn, 1) := by decide +kernel
theorem dX0_thickens_89 : decode cX0_thickens 89 = .ok (.iload_n 3, 1) := by decide +kernel
theorem dX0_thickens_90 : decode cX0_thickens 90 = .ok (.iconst 1, 1) := by decide +kernel
theorem dX0_thickens_91 : decode cX0_thickens 91 = .ok (.if_icmp .ne 11, 3) := by decide +kernel
theorem dX0_thickens_94 : decode cX0_thickens 94 = .ok (.iload 7, 2) := by decide +kernel
theorem dX0_thickens_96 : decode cX0_thickens 96 = .ok (.bipush 10, 2) := by decide +kernel
theorem dX0_thickens_98 : decode cX0_thickens 98 = .ok (.iadd, 1) := by decide +kernel
theorem dX0_thickens_99 : decode cX0_thickens 99 = .ok (.goto 5, 3) := by decide +kernel
theorem dX0_thickens_102 : decode cX0_thickens 102 = .ok (.iload 7, 2) := by decide +kernel
theorem dX0_thickens_104 : decode cX0_thickens 104 = .ok (.ireturn, 1) := by decide +kernel
theorem dX0_thickens_105 : decode cX0_thickens 105 = .ok (.iconst 0, 1) := by decide +kernel
theorem dX0_thickens_106 : decode cX0_thickens 106 = .ok (.ireturn, 1) := by decide +kernel
theorem dX0_salts_0 : decode cX0_salts 0 = .ok (.iload_n 1, 1) := by decide +kernel
theorem dX0_salts_1 : decode cX0_salts 1 = .ok (.iconst 2, 1) := by decide +kernel
theorem dX0_salts_2 : decode cX0_salts 2 = .ok (.if_icmp .ne 7, 3) := by decide +kernel
theorem dX0_salts_5 : decode cX0_salts 5 = .ok (.iconst 5, 1) := by decide +kernel
theorem dX0_salts_6 : decode cX0_salts 6 = .ok (.goto 4, 3) := by decide +kernel
theorem dX0_salts_9 : decode cX0_salts 9 = .ok (.iconst 0, 1) := by decide +kernel
theorem dX0_salts_10 : decode cX0_salts 10 = .ok (.istore_n 2, 1) := by decide +kernel
theorem dX0_salts_11 : decode cX0_salts 11 = .ok (.iload_n 2, 1) := by decide +kernel
theorem dX0_salts_12 : decode cX0_salts 12 = .ok (.iconst 1, 1) := by decide +kernel
theorem dX0_salts_13 : decode cX0_salts 13 = .ok (.iadd, 1) := by decide +kernel
theorem dX0_salts_14 : decode cX0_salts 14 = .ok (.istore_n 3, 1) := by decide +kernel
theorem dX0_salts_15 : decode cX0_salts 15 = .ok (.aload_n 0, 1) := by decide +kernel
theorem dX0_salts_16 : decode cX0_salts 16 = .ok (.getfield 9, 3) := by decide +kernel
theorem dX0_salts_19 : decode cX0_salts 19 = .ok (.tableswitch 65 0 5 #[37, 39, 41, 43, 47, 51], 37) := by decide +kernel
theorem dX0_salts_56 : decode cX0_salts 56 = .ok (.iload_n 2, 1) := by decide +kernel
theorem dX0_salts_57 : decode cX0_salts 57 = .ok (.ireturn, 1) := by decide +kernel
theorem dX0_salts_58 : decode cX0_salts 58 = .ok (.iload_n 2, 1) := by decide +kernel
theorem dX0_salts_59 : decode cX0_salts 59 = .ok (.ireturn, 1) := by decide +kernel
theorem dX0_salts_60 : decode cX0_salts 60 = .ok (.iload_n 3, 1) := by decide +kernel
theorem dX0_salts_61 : decode cX0_salts 61 = .ok (.ireturn, 1) := by decide +kernel
theorem dX0_salts_62 : decode cX0_salts 62 = .ok (.iconst 2, 1) := by decide +kernel
theorem dX0_salts_63 : decode cX0_salts 63 = .ok (.iload_n 3, 1) := by decide +kernel
theorem dX0_salts_64 : decode cX0_salts 64 = .ok (.imul, 1) := by decide +kernel
theorem dX0_salts_65 : decode cX0_salts 65 = .ok (.ireturn, 1) := by decide +kernel
theorem dX0_salts_66 : decode cX0_salts 66 = .ok (.iconst 2, 1) := by decide +kernel
theorem dX0_salts_67 : decode cX0_salts 67 = .ok (.iload_n 3, 1) := by decide +kernel
theorem dX0_salts_68 : decode cX0_salts 68 = .ok (.imul, 1) := by decide +kernel
theorem dX0_salts_69 : decode cX0_salts 69 = .ok (.ireturn, 1) := by decide +kernel
theorem dX0_salts_70 : decode cX0_salts 70 = .ok (.iload_n 1, 1) := by decide +kernel
theorem dX0_salts_71 : decode cX0_salts 71 = .ok (.bipush 8, 2) := by decide +kernel
theorem dX0_salts_73 : decode cX0_salts 73 = .ok (.if_icmp .ne 9, 3) := by decide +kernel
theorem dX0_salts_76 : decode cX0_salts 76 = .ok (.iload_n 2, 1) := by decide +kernel
theorem dX0_salts_77 : decode cX0_salts 77 = .ok (.iconst 3, 1) := by decide +kernel
theorem dX0_salts_78 : decode cX0_salts 78 = .ok (.iadd, 1) := by decide +kernel
theorem dX0_salts_79 : decode cX0_salts 79 = .ok (.goto 4, 3) := by decide +kernel
theorem dX0_salts_82 : decode cX0_salts 82 = .ok (.iload_n 2, 1) := by decide +kernel
theorem dX0_salts_83 : decode cX0_salts 83 = .ok (.ireturn, 1) := by decide +kernel
theorem dX0_salts_84 : decode cX0_salts 84 = .ok (.iconst 0, 1) := by decide +kernel
theorem dX0_salts_85 : decode cX0_salts 85 = .ok (.ireturn, 1) := by decide +kernel
theorem dX0_burns_0 : decode cX0_burns 0 = .ok (.bipush 80, 2) := by decide +kernel
theorem dX0_burns_2 : decode cX0_burns 2 = .ok (.istore_n 1, 1) := by decide +kernel
theorem dX0_burns_3 : decode cX0_burns 3 = .ok (.iload_n 1, 1) := by decide +kernel
theorem dX0_burns_4 : decode cX0_burns 4 = .ok (.bipush 19, 2) := by decide +kernel
theorem dX0_burns_6 : decode cX0_burns 6 = .ok (.iadd, 1) := by decide +kernel
theorem dX0_burns_7 : decode cX0_burns 7 = .ok (.istore_n 2, 1) := by decide +kernel
theorem dX0_burns_8 : decode cX0_burns 8 = .ok (.aload_n 0, 1) := by decide +kernel
theorem dX0_burns_9 : decode cX0_burns 9 = .ok (.getfield 9, 3) := by decide +kernel
theorem dX0_burns_12 : decode cX0_burns 12 = .ok (.tableswitch 65 0 6 #[44, 46, 56, 58, 60, 65, 51], 44) := by decide +kernel
theorem dX0_burns_56 : decode cX0_burns 56 = .ok (.iload_n 1, 1) := by decide +kernel
theorem dX0_burns_57 : decode cX0_burns 57 = .ok (.ireturn, 1) := by decide +kernel
theorem dX0_burns_58 : decode cX0_burns 58 = .ok (.iload_n 1, 1) := by decide +kernel
theorem dX0_burns_59 : decode cX0_burns 59 = .ok (.bipush 10, 2) := by decide +kernel
theorem dX0_burns_61 : decode cX0_burns 61 = .ok (.isub, 1) := by decide +kernel
theorem dX0_burns_62 : decode cX0_burns 62 = .ok (.ireturn, 1) := by decide +kernel
theorem dX0_burns_63 : decode cX0_burns 63 = .ok (.iload_n 1, 1) := by decide +kernel
theorem dX0_burns_64 : decode cX0_burns 64 = .ok (.bipush 10, 2) := by decide +kernel
theorem dX0_burns_66 : decode cX0_burns 66 = .ok (.isub, 1) := by decide +kernel
theorem dX0_burns_67 : decode cX0_burns 67 = .ok (.ireturn, 1) := by decide +kernel
theorem dX0_burns_68 : decode cX0_burns 68 = .ok (.iload_n 2, 1) := by decide +kernel
theorem dX0_burns_69 : decode cX0_burns 69 = .ok (.ireturn, 1) := by decide +kernel
theorem dX0_burns_70 : decode cX0_burns 70 = .ok (.iload_n 2, 1) := by decide +kernel
theorem dX0_burns_71 : decode cX0_burns 71 = .ok (.ireturn, 1) := by decide +kernel
theorem dX0_burns_72 : decode cX0_burns 72 = .ok (.iload_n 2, 1) := by decide +kernel
theorem dX0_burns_73 : decode cX0_burns 73 = .ok (.bipush 9, 2) := by decide +kernel
theorem dX0_burns_75 : decode cX0_burns 75 = .ok (.isub, 1) := by decide +kernel
theorem dX0_burns_76 : decode cX0_burns 76 = .ok (.ireturn, 1) := by decide +kernel
theorem dX0_burns_77 : decode cX0_burns 77 = .ok (.bipush 99, 2) := by decide +kernel
theorem dX0_burns_79 : decode cX0_burns 79 = .ok (.ireturn, 1) := by decide +kernel
theorem dX0_gives_0 : decode cX0_gives 0 = .ok (.aload_n 0, 1) := by decide +kernel
theorem dX0_gives_1 : decode cX0_gives 1 = .ok (.getfield 21, 3) := by decide +kernel
theorem dX0_gives_4 : decode cX0_gives 4 = .ok (.iconst 1, 1) := by decide +kernel
theorem dX0_gives_5 : decode cX0_gives 5 = .ok (.if_icmp .ne 5, 3) := by decide +kernel
theorem dX0_gives_8 : decode cX0_gives 8 = .ok (.iconst 0, 1) := by decide +kernel
theorem dX0_gives_9 : decode cX0_gives 9 = .ok (.ireturn, 1) := by decide +kernel
theorem dX0_gives_10 : decode cX0_gives 10 = .ok (.iconst 0, 1) := by decide +kernel
theorem dX0_gives_11 : decode cX0_gives 11 = .ok (.aload_n 0, 1) := by decide +kernel
theorem dX0_gives_12 : decode cX0_gives 12 = .ok (.getfield 15, 3) := by decide +kernel
theorem dX0_gives_15 : decode cX0_gives 15 = .ok (.aload_n 0, 1) := by decide +kernel
theorem dX0_gives_16 : decode cX0_gives 16 = .ok (.getfield 18, 3) := by decide +kernel
theorem dX0_gives_19 : decode cX0_gives 19 = .ok (.bipush 30, 2) := by decide +kernel
theorem dX0_gives_21 : decode cX0_gives 21 = .ok (.isub, 1) := by decide +kernel
theorem dX0_gives_22 : decode cX0_gives 22 = .ok (.invokestatic 30, 3) := by decide +kernel
theorem dX0_gives_25 : decode cX0_gives 25 = .ok (.isub, 1) := by decide +kernel
theorem dX0_gives_26 : decode cX0_gives 26 = .ok (.invokestatic 36, 3) := by decide +kernel
theorem dX0_gives_29 : decode cX0_gives 29 = .ok (.istore_n 2, 1) := by decide +kernel
theorem dX0_gives_30 : decode cX0_gives 30 = .ok (.iload_n 2, 1) := by decide +kernel
theorem dX0_gives_31 : decode cX0_gives 31 = .ok (.iload_n 1, 1) := by decide +kernel
theorem dX0_gives_32 : decode cX0_gives 32 = .ok (.iconst 5, 1) := by decide +kernel
theorem dX0_gives_33 : decode cX0_gives 33 = .ok (.idiv, 1) := by decide +kernel
theorem dX0_gives_34 : decode cX0_gives 34 = .ok (.iadd, 1) := by decide +kernel
theorem dX0_gives_35 : decode cX0_gives 35 = .ok (.istore_n 3, 1) := by decide +kernel
theorem dX0_gives_36 : decode cX0_gives 36 = .ok (.iload_n 2, 1) := by decide +kernel
theorem dX0_gives_37 : decode cX0_gives 37 = .ok (.iconst 2, 1) := by decide +kernel
theorem dX0_gives_38 : decode cX0_gives 38 = .ok (.idiv, 1) := by decide +kernel
theorem dX0_gives_39 : decode cX0_gives 39 = .ok (.istore 4, 2) := by decide +kernel
theorem dX0_gives_41 : decode cX0_gives 41 = .ok (.iload 4, 2) := by decide +kernel
theorem dX0_gives_43 : decode cX0_gives 43 = .ok (.bipush 20, 2) := by decide +kernel
theorem dX0_gives_45 : decode cX0_gives 45 = .ok (.iadd, 1) := by decide +kernel
theorem dX0_gives_46 : decode cX0_gives 46 = .ok (.istore 5, 2) := by decide +kernel
theorem dX0_gives_48 : decode cX0_gives 48 = .ok (.aload_n 0, 1) := by decide +kernel
theorem dX0_gives_49 : decode cX0_gives 49 = .ok (.getfield 9, 3) := by decide +kernel
theorem dX0_gives_52 : decode cX0_gives 52 = .ok (.tableswitch 61 0 6 #[44, 46, 50, 53, 56, 61, 48], 44) := by decide +kernel
theorem dX0_gives_96 : decode cX0_gives 96 = .ok (.iload_n 2, 1) := by decide +kernel
theorem dX0_gives_97 : decode cX0_gives 97 = .ok (.ireturn, 1) := by decide +kernel
theorem dX0_gives_98 : decode cX0_gives 98 = .ok (.iload_n 3, 1) := by decide +kernel
theorem dX0_gives_99 : decode cX0_gives 99 = .ok (.ireturn, 1) := by decide +kernel
theorem dX0_gives_100 : decode cX0_gives 100 = .ok (.iload_n 3, 1) := by decide +kernel
theorem dX0_gives_101 : decode cX0_gives 101 = .ok (.ireturn, 1) := by decide +kernel
theorem dX0_gives_102 : decode cX0_gives 102 = .ok (.iload 4, 2) := by decide +kernel
theorem dX0_gives_104 : decode cX0_gives 104 = .ok (.ireturn, 1) := by decide +kernel
theorem dX0_gives_105 : decode cX0_gives 105 = .ok (.iload 5, 2) := by decide +kernel
theorem dX0_gives_107 : decode cX0_gives 107 = .ok (.ireturn, 1) := by decide +kernel
theorem dX0_gives_108 : decode cX0_gives 108 = .ok (.iconst 2, 1) := by decide +kernel
theorem dX0_gives_109 : decode cX0_gives 109 = .ok (.iload 5, 2) := by decide +kernel
theorem dX0_gives_111 : decode cX0_gives 111 = .ok (.imul, 1) := by decide +kernel
theorem dX0_gives_112 : decode cX0_gives 112 = .ok (.ireturn, 1) := by decide +kernel
theorem dX0_gives_113 : decode cX0_gives 113 = .ok (.bipush 10, 2) := by decide +kernel
theorem dX0_gives_115 : decode cX0_gives 115 = .ok (.ireturn, 1) := by decide +kernel
theorem dX0_cook_0 : decode cX0_cook 0 = .ok (.iload_n 1, 1) := by decide +kernel
theorem dX0_cook_1 : decode cX0_cook 1 = .ok (.aload_n 0, 1) := by decide +kernel
theorem dX0_cook_2 : decode cX0_cook 2 = .ok (.iload_n 2, 1) := by decide +kernel
theorem dX0_cook_3 : decode cX0_cook 3 = .ok (.invokevirtual 40, 3) := by decide +kernel
theorem dX0_cook_6 : decode cX0_cook 6 = .ok (.if_icmp .ge 9, 3) := by decide +kernel
theorem dX0_cook_9 : decode cX0_cook 9 = .ok (.aload_n 0, 1) := by decide +kernel
theorem dX0_cook_10 : decode cX0_cook 10 = .ok (.iconst 1, 1) := by decide +kernel
theorem dX0_cook_11 : decode cX0_cook 11 = .ok (.putfield 21, 3) := by decide +kernel
theorem dX0_cook_14 : decode cX0_cook 14 = .ok (.return_, 1) := by decide +kernel
theorem dX0_cook_15 : decode cX0_cook 15 = .ok (.aload_n 0, 1) := by decide +kernel
theorem dX0_cook_16 : decode cX0_cook 16 = .ok (.bipush 99, 2) := by decide +kernel
theorem dX0_cook_18 : decode cX0_cook 18 = .ok (.aload_n 0, 1) := by decide +kernel
theorem dX0_cook_19 : decode cX0_cook 19 = .ok (.getfield 15, 3) := by decide +kernel
theorem dX0_cook_22 : decode cX0_cook 22 = .ok (.aload_n 0, 1) := by decide +kernel
theorem dX0_cook_23 : decode cX0_cook 23 = .ok (.iload_n 1, 1) := by decide +kernel
theorem dX0_cook_24 : decode cX0_cook 24 = .ok (.iload_n 2, 1) := by decide +kernel
theorem dX0_cook_25 : decode cX0_cook 25 = .ok (.iload_n 3, 1) := by decide +kernel
theorem dX0_cook_26 : decode cX0_cook 26 = .ok (.invokevirtual 43, 3) := by decide +kernel
theorem dX0_cook_29 : decode cX0_cook 29 = .ok (.iadd, 1) := by decide +kernel
theorem dX0_cook_30 : decode cX0_cook 30 = .ok (.invokestatic 47, 3) := by decide +kernel
theorem dX0_cook_33 : decode cX0_cook 33 = .ok (.putfield 15, 3) := by decide +kernel
theorem dX0_cook_36 : decode cX0_cook 36 = .ok (.aload_n 0, 1) := by decide +kernel
theorem dX0_cook_37 : decode cX0_cook 37 = .ok (.bipush 99, 2) := by decide +kernel
theorem dX0_cook_39 : decode cX0_cook 39 = .ok (.aload_n 0, 1) := by decide +kernel
theorem dX0_cook_40 : decode cX0_cook 40 = .ok (.getfield 18, 3) := by decide +kernel
theorem dX0_cook_43 : decode cX0_cook 43 = .ok (.aload_n 0, 1) := by decide +kernel
theorem dX0_cook_44 : decode cX0_cook 44 = .ok (.iload_n 3, 1) := by decide +kernel
theorem dX0_cook_45 : decode cX0_cook 45 = .ok (.invokevirtual 50, 3) := by decide +kernel
theorem dX0_cook_48 : decode cX0_cook 48 = .ok (.iadd, 1) := by decide +kernel
theorem dX0_cook_49 : decode cX0_cook 49 = .ok (.invokestatic 47, 3) := by decide +kernel
theorem dX0_cook_52 : decode cX0_cook 52 = .ok (.putfield 18, 3) := by decide +kernel
theorem dX0_cook_55 : decode cX0_cook 55 = .ok (.aload_n 0, 1) := by decide +kernel
theorem dX0_cook_56 : decode cX0_cook 56 = .ok (.getfield 15, 3) := by decide +kernel
theorem dX0_cook_59 : decode cX0_cook 59 = .ok (.aload_n 0, 1) := by decide +kernel
theorem dX0_cook_60 : decode cX0_cook 60 = .ok (.invokevirtual 53, 3) := by decide +kernel
theorem dX0_cook_63 : decode cX0_cook 63 = .ok (.if_icmp .le 8, 3) := by decide +kernel
theorem dX0_cook_66 : decode cX0_cook 66 = .ok (.aload_n 0, 1) := by decide +kernel
theorem dX0_cook_67 : decode cX0_cook 67 = .ok (.iconst 1, 1) := by decide +kernel
theorem dX0_cook_68 : decode cX0_cook 68 = .ok (.putfield 21, 3) := by decide +kernel
theorem dX0_cook_71 : decode cX0_cook 71 = .ok (.return_, 1) := by decide +kernel
theorem dX0_startAnew_0 : decode cX0_startAnew 0 = .ok (.aload_n 0, 1) := by decide +kernel
theorem dX0_startAnew_1 : decode cX0_startAnew 1 = .ok (.sipush 9999, 3) := by decide +kernel
theorem dX0_startAnew_4 : decode cX0_startAnew 4 = .ok (.aload_n 0, 1) := by decide +kernel
theorem dX0_startAnew_5 : decode cX0_startAnew 5 = .ok (.getfield 27, 3) := by decide +kernel
theorem dX0_startAnew_8 : decode cX0_startAnew 8 = .ok (.iconst 1, 1) := by decide +kernel
theorem dX0_startAnew_9 : decode cX0_startAnew 9 = .ok (.iadd, 1) := by decide +kernel
theorem dX0_startAnew_10 : decode cX0_startAnew 10 = .ok (.invokestatic 47, 3) := by decide +kernel
theorem dX0_startAnew_13 : decode cX0_startAnew 13 = .ok (.putfield 27, 3) := by decide +kernel
theorem dX0_startAnew_16 : decode cX0_startAnew 16 = .ok (.aload_n 0, 1) := by decide +kernel
theorem dX0_startAnew_17 : decode cX0_startAnew 17 = .ok (.bipush 10, 2) := by decide +kernel
theorem dX0_startAnew_19 : decode cX0_startAnew 19 = .ok (.putfield 15, 3) := by decide +kernel
theorem dX0_startAnew_22 : decode cX0_startAnew 22 = .ok (.aload_n 0, 1) := by decide +kernel
theorem dX0_startAnew_23 : decode cX0_startAnew 23 = .ok (.bipush 10, 2) := by decide +kernel
theorem dX0_startAnew_25 : decode cX0_startAnew 25 = .ok (.putfield 18, 3) := by decide +kernel
theorem dX0_startAnew_28 : decode cX0_startAnew 28 = .ok (.aload_n 0, 1) := by decide +kernel
theorem dX0_startAnew_29 : decode cX0_startAnew 29 = .ok (.iconst 0, 1) := by decide +kernel
theorem dX0_startAnew_30 : decode cX0_startAnew 30 = .ok (.putfield 21, 3) := by decide +kernel
theorem dX0_startAnew_33 : decode cX0_startAnew 33 = .ok (.return_, 1) := by decide +kernel
theorem dX1_init_0 : decode cX1_init 0 = .ok (.aload_n 0, 1) := by decide +kernel
theorem dX1_init_1 : decode cX1_init 1 = .ok (.invokespecial 3, 3) := by decide +kernel
theorem dX1_init_4 : decode cX1_init 4 = .ok (.aload_n 0, 1) := by decide +kernel
theorem dX1_init_5 : decode cX1_init 5 = .ok (.bipush 50, 2) := by decide +kernel
theorem dX1_init_7 : decode cX1_init 7 = .ok (.putfield 9, 3) := by decide +kernel
theorem dX1_init_10 : decode cX1_init 10 = .ok (.aload_n 0, 1) := by decide +kernel
theorem dX1_init_11 : decode cX1_init 11 = .ok (.iconst 3, 1) := by decide +kernel
theorem dX1_init_12 : decode cX1_init 12 = .ok (.putfield 15, 3) := by decide +kernel
theorem dX1_init_15 : decode cX1_init 15 = .ok (.aload_n 0, 1) := by decide +kernel
theorem dX1_init_16 : decode cX1_init 16 = .ok (.iconst 0, 1) := by decide +kernel
theorem dX1_init_17 : decode cX1_init 17 = .ok (.putfield 18, 3) := by decide +kernel
theorem dX1_init_20 : decode cX1_init 20 = .ok (.aload_n 0, 1) := by decide +kernel
theorem dX1_init_21 : decode cX1_init 21 = .ok (.iconst 0, 1) := by decide +kernel
theorem dX1_init_22 : decode cX1_init 22 = .ok (.putfield 21, 3) := by decide +kernel
theorem dX1_init_25 : decode cX1_init 25 = .ok (.aload_n 0, 1) := by decide +kernel
theorem dX1_init_26 : decode cX1_init 26 = .ok (.iconst 1, 1) := by decide +kernel
theorem dX1_init_27 : decode cX1_init 27 = .ok (.putfield 24, 3) := by decide +kernel
theorem dX1_init_30 : decode cX1_init 30 = .ok (.aload_n 0, 1) := by decide +kernel
theorem dX1_init_31 : decode cX1_init 31 = .ok (.iconst 0, 1) := by decide +kernel
theorem dX1_init_32 : decode cX1_init 32 = .ok (.putfield 27, 3) := by decide +kernel
theorem dX1_init_35 : decode cX1_init 35 = .ok (.aload_n 0, 1) := by decide +kernel
theorem dX1_init_36 : decode cX1_init 36 = .ok (.bipush 6, 2) := by decide +kernel
theorem dX1_init_38 : decode cX1_init 38 = .ok (.newarray .int, 2) := by decide +kernel
theorem dX1_init_40 : decode cX1_init 40 = .ok (.putfield 30, 3) := by decide +kernel
theorem dX1_init_43 : decode cX1_init 43 = .ok (.aload_n 0, 1) := by decide +kernel
theorem dX1_init_44 : decode cX1_init 44 = .ok (.bipush 10, 2) := by decide +kernel
theorem dX1_init_46 : decode cX1_init 46 = .ok (.newarray .int, 2) := by decide +kernel
theorem dX1_init_48 : decode cX1_init 48 = .ok (.putfield 34, 3) := by decide +kernel
theorem dX1_init_51 : decode cX1_init 51 = .ok (.aload_n 0, 1) := by decide +kernel
theorem dX1_init_52 : decode cX1_init 52 = .ok (.bipush 8, 2) := by decide +kernel
theorem dX1_init_54 : decode cX1_init 54 = .ok (.anewarray 37, 3) := by decide +kernel
theorem dX1_init_57 : decode cX1_init 57 = .ok (.putfield 39, 3) := by decide +kernel
theorem dX1_init_60 : decode cX1_init 60 = .ok (.aload_n 0, 1) := by decide +kernel
theorem dX1_init_61 : decode cX1_init 61 = .ok (.getfield 34, 3) := by decide +kernel
theorem dX1_init_64 : decode cX1_init 64 = .ok (.iconst (-1), 1) := by decide +kernel
theorem dX1_init_65 : decode cX1_init 65 = .ok (.invokestatic 43, 3) := by decide +kernel
theorem dX1_init_68 : decode cX1_init 68 = .ok (.iconst 0, 1) := by decide +kernel
theorem dX1_init_69 : decode cX1_init 69 = .ok (.istore_n 1, 1) := by decide +kernel
theorem dX1_init_70 : decode cX1_init 70 = .ok (.iload_n 1, 1) := by decide +kernel
theorem dX1_init_71 : decode cX1_init 71 = .ok (.bipush 8, 2) := by decide +kernel
theorem dX1_init_73 : decode cX1_init 73 = .ok (.if_icmp .ge 22, 3) := by decide +kernel
theorem dX1_init_76 : decode cX1_init 76 = .ok (.aload_n 0, 1) := by decide +kernel
theorem dX1_init_77 : decode cX1_init 77 = .ok (.getfield 39, 3) := by decide +kernel
theorem dX1_init_80 : decode cX1_init 80 = .ok (.iload_n 1, 1) := by decide +kernel
theorem dX1_init_81 : decode cX1_init 81 = .ok (.new 37, 3) := by decide +kernel
theorem dX1_init_84 : decode cX1_init 84 = .ok (.dup, 1) := by decide +kernel
theorem dX1_init_85 : decode cX1_init 85 = .ok (.invokespecial 49, 3) := by decide +kernel
theorem dX1_init_88 : decode cX1_init 88 = .ok (.aastore, 1) := by decide +kernel
theorem dX1_init_89 : decode cX1_init 89 = .ok (.iinc 1 1, 3) := by decide +kernel
theorem dX1_init_92 : decode cX1_init 92 = .ok (.goto (-22), 3) := by decide +kernel
theorem dX1_init_95 : decode cX1_init 95 = .ok (.return_, 1) := by decide +kernel
theorem dX1_takeAll_0 : decode cX1_takeAll 0 = .ok (.aload_n 0, 1) := by decide +kernel
theorem dX1_takeAll_1 : decode cX1_takeAll 1 = .ok (.aload_n 1, 1) := by decide +kernel
theorem dX1_takeAll_2 : decode cX1_takeAll 2 = .ok (.invokevirtual 50, 3) := by decide +kernel
theorem dX1_takeAll_5 : decode cX1_takeAll 5 = .ok (.aload_n 0, 1) := by decide +kernel
theorem dX1_takeAll_6 : decode cX1_takeAll 6 = .ok (.aload_n 1, 1) := by decide +kernel
theorem dX1_takeAll_7 : decode cX1_takeAll 7 = .ok (.getfield 18, 3) := by decide +kernel
theorem dX1_takeAll_10 : decode cX1_takeAll 10 = .ok (.putfield 18, 3) := by decide +kernel
theorem dX1_takeAll_13 : decode cX1_takeAll 13 = .ok (.aload_n 0, 1) := by decide +kernel
theorem dX1_takeAll_14 : decode cX1_takeAll 14 = .ok (.aload_n 1, 1) := by decide +kernel
theorem dX1_takeAll_15 : decode cX1_takeAll 15 = .ok (.getfield 24, 3) := by decide +kernel
theorem dX1_takeAll_18 : decode cX1_takeAll 18 = .ok (.putfield 24, 3) := by decide +kernel
theorem dX1_takeAll_21 : decode cX1_takeAll 21 = .ok (.aload_n 1, 1) := by decide +kernel
theorem dX1_takeAll_22 : decode cX1_takeAll 22 = .ok (.getfield 34, 3) := by decide +kernel
theorem dX1_takeAll_25 : decode cX1_takeAll 25 = .ok (.iconst 0, 1) := by decide +kernel
theorem dX1_takeAll_26 : decode cX1_takeAll 26 = .ok (.aload_n 0, 1) := by decide +kernel
theorem dX1_takeAll_27 : decode cX1_takeAll 27 = .ok (.getfield 34, 3) := by decide +kernel
theorem dX1_takeAll_30 : decode cX1_takeAll 30 = .ok (.iconst 0, 1) := by decide +kernel
theorem dX1_takeAll_31 : decode cX1_takeAll 31 = .ok (.bipush 10, 2) := by decide +kernel
theorem dX1_takeAll_33 : decode cX1_takeAll 33 = .ok (.invokestatic 54, 3) := by decide +kernel
theorem dX1_takeAll_36 : decode cX1_takeAll 36 = .ok (.aload_n 0, 1) := by decide +kernel
theorem dX1_takeAll_37 : decode cX1_takeAll 37 = .ok (.aload_n 1, 1) := by decide +kernel
theorem dX1_takeAll_38 : decode cX1_takeAll 38 = .ok (.getfield 27, 3) := by decide +kernel
theorem dX1_takeAll_41 : decode cX1_takeAll 41 = .ok (.putfield 27, 3) := by decide +kernel
theorem dX1_takeAll_44 : decode cX1_takeAll 44 = .ok (.iconst 0, 1) := by decide +kernel
theorem dX1_takeAll_45 : decode cX1_takeAll 45 = .ok (.istore_n 2, 1) := by decide +kernel
theorem dX1_takeAll_46 : decode cX1_takeAll 46 = .ok (.iload_n 2, 1) := by decide +kernel
theorem dX1_takeAll_47 : decode cX1_takeAll 47 = .ok (.aload_n 0, 1) := by decide +kernel
theorem dX1_takeAll_48 : decode cX1_takeAll 48 = .ok (.getfield 27, 3) := by decide +kernel
theorem dX1_takeAll_51 : decode cX1_takeAll 51 = .ok (.if_icmp .ge 24, 3) := by decide +kernel
theorem dX1_takeAll_54 : decode cX1_takeAll 54 = .ok (.aload_n 0, 1) := by decide +kernel
theorem dX1_takeAll_55 : decode cX1_takeAll 55 = .ok (.getfield 39, 3) := by decide +kernel
theorem dX1_takeAll_58 : decode cX1_takeAll 58 = .ok (.iload_n 2, 1) := by decide +kernel
theorem dX1_takeAll_59 : decode cX1_takeAll 59 = .ok (.aaload, 1) := by decide +kernel
theorem dX1_takeAll_60 : decode cX1_takeAll 60 = .ok (.aload_n 1, 1) := by decide +kernel
theorem dX1_takeAll_61 : decode cX1_takeAll 61 = .ok (.getfield 39, 3) := by decide +kernel
theorem dX1_takeAll_64 : decode cX1_takeAll 64 = .ok (.iload_n 2, 1) := by decide +kernel
theorem dX1_takeAll_65 : decode cX1_takeAll 65 = .ok (.aaload, 1) := by decide +kernel
theorem dX1_takeAll_66 : decode cX1_takeAll 66 = .ok (.invokevirtual 60, 3) := by decide +kernel
theorem dX1_takeAll_69 : decode cX1_takeAll 69 = .ok (.iinc 2 1, 3) := by decide +kernel
theorem dX1_takeAll_72 : decode cX1_takeAll 72 = .ok (.goto (-26), 3) := by decide +kernel
theorem dX1_takeAll_75 : decode cX1_takeAll 75 = .ok (.return_, 1) := by decide +kernel
theorem dX1_takeMood_0 : decode cX1_takeMood 0 = .ok (.aload_n 0, 1) := by decide +kernel
theorem dX1_takeMood_1 : decode cX1_takeMood 1 = .ok (.aload_n 1, 1) := by decide +kernel
theorem dX1_takeMood_2 : decode cX1_takeMood 2 = .ok (.getfield 9, 3) := by decide +kernel
theorem dX1_takeMood_5 : decode cX1_takeMood 5 = .ok (.putfield 9, 3) := by decide +kernel
theorem dX1_takeMood_8 : decode cX1_takeMood 8 = .ok (.aload_n 0, 1) := by decide +kernel
theorem dX1_takeMood_9 : decode cX1_takeMood 9 = .ok (.aload_n 1, 1) := by decide +kernel
theorem dX1_takeMood_10 : decode cX1_takeMood 10 = .ok (.getfield 15, 3) := by decide +kernel
theorem dX1_takeMood_13 : decode cX1_takeMood 13 = .ok (.putfield 15, 3) := by decide +kernel
theorem dX1_takeMood_16 : decode cX1_takeMood 16 = .ok (.aload_n 0, 1) := by decide +kernel
theorem dX1_takeMood_17 : decode cX1_takeMood 17 = .ok (.aload_n 1, 1) := by decide +kernel
theorem dX1_takeMood_18 : decode cX1_takeMood 18 = .ok (.getfield 21, 3) := by decide +kernel
theorem dX1_takeMood_21 : decode cX1_takeMood 21 = .ok (.putfield 21, 3) := by decide +kernel
theorem dX1_takeMood_24 : decode cX1_takeMood 24 = .ok (.aload_n 1, 1) := by decide +kernel
theorem dX1_takeMood_25 : decode cX1_takeMood 25 = .ok (.getfield 30, 3) := by decide +kernel
theorem dX1_takeMood_28 : decode cX1_takeMood 28 = .ok (.iconst 0, 1) := by decide +kernel
theorem dX1_takeMood_29 : decode cX1_takeMood 29 = .ok (.aload_n 0, 1) := by decide +kernel
theorem dX1_takeMood_30 : decode cX1_takeMood 30 = .ok (.getfield 30, 3) := by decide +kernel
theorem dX1_takeMood_33 : decode cX1_takeMood 33 = .ok (.iconst 0, 1) := by decide +kernel
theorem dX1_takeMood_34 : decode cX1_takeMood 34 = .ok (.bipush 6, 2) := by decide +kernel
theorem dX1_takeMood_36 : decode cX1_takeMood 36 = .ok (.invokestatic 54, 3) := by decide +kernel
theorem dX1_takeMood_39 : decode cX1_takeMood 39 = .ok (.aload_n 0, 1) := by decide +kernel
theorem dX1_takeMood_40 : decode cX1_takeMood 40 = .ok (.iconst 0, 1) := by decide +kernel
theorem dX1_takeMood_41 : decode cX1_takeMood 41 = .ok (.putfield 27, 3) := by decide +kernel
theorem dX1_takeMood_44 : decode cX1_takeMood 44 = .ok (.return_, 1) := by decide +kernel
theorem dX1_takeOne_0 : decode cX1_takeOne 0 = .ok (.aload_n 0, 1) := by decide +kernel
theorem dX1_takeOne_1 : decode cX1_takeOne 1 = .ok (.aload_n 1, 1) := by decide +kernel
theorem dX1_takeOne_2 : decode cX1_takeOne 2 = .ok (.invokevirtual 50, 3) := by decide +kernel
theorem dX1_takeOne_5 : decode cX1_takeOne 5 = .ok (.aload_n 0, 1) := by decide +kernel
theorem dX1_takeOne_6 : decode cX1_takeOne 6 = .ok (.getfield 39, 3) := by decide +kernel
theorem dX1_takeOne_9 : decode cX1_takeOne 9 = .ok (.iconst 0, 1) := by decide +kernel
theorem dX1_takeOne_10 : decode cX1_takeOne 10 = .ok (.aaload, 1) := by decide +kernel
theorem dX1_takeOne_11 : decode cX1_takeOne 11 = .ok (.aload_n 1, 1) := by decide +kernel
theorem dX1_takeOne_12 : decode cX1_takeOne 12 = .ok (.getfield 39, 3) := by decide +kernel
theorem dX1_takeOne_15 : decode cX1_takeOne 15 = .ok (.iload_n 2, 1) := by decide +kernel
theorem dX1_takeOne_16 : decode cX1_takeOne 16 = .ok (.aaload, 1) := by decide +kernel
theorem dX1_takeOne_17 : decode cX1_takeOne 17 = .ok (.invokevirtual 60, 3) := by decide +kernel
theorem dX1_takeOne_20 : decode cX1_takeOne 20 = .ok (.aload_n 0, 1) := by decide +kernel
theorem dX1_takeOne_21 : decode cX1_takeOne 21 = .ok (.iconst 1, 1) := by decide +kernel
theorem dX1_takeOne_22 : decode cX1_takeOne 22 = .ok (.putfield 27, 3) := by decide +kernel
theorem dX1_takeOne_25 : decode cX1_takeOne 25 = .ok (.return_, 1) := by decide +kernel
theorem dX1_addDish_0 : decode cX1_addDish 0 = .ok (.aload_n 0, 1) := by decide +kernel
theorem dX1_addDish_1 : decode cX1_addDish 1 = .ok (.getfield 39, 3) := by decide +kernel
theorem dX1_addDish_4 : decode cX1_addDish 4 = .ok (.aload_n 0, 1) := by decide +kernel
theorem dX1_addDish_5 : decode cX1_addDish 5 = .ok (.getfield 27, 3) := by decide +kernel
theorem dX1_addDish_8 : decode cX1_addDish 8 = .ok (.aaload, 1) := by decide +kernel
theorem dX1_addDish_9 : decode cX1_addDish 9 = .ok (.astore_n 2, 1) := by decide +kernel
theorem dX1_addDish_10 : decode cX1_addDish 10 = .ok (.aload_n 2, 1) := by decide +kernel
theorem dX1_addDish_11 : decode cX1_addDish 11 = .ok (.iload_n 1, 1) := by decide +kernel
theorem dX1_addDish_12 : decode cX1_addDish 12 = .ok (.invokevirtual 64, 3) := by decide +kernel
theorem dX1_addDish_15 : decode cX1_addDish 15 = .ok (.aload_n 0, 1) := by decide +kernel
theorem dX1_addDish_16 : decode cX1_addDish 16 = .ok (.dup, 1) := by decide +kernel
theorem dX1_addDish_17 : decode cX1_addDish 17 = .ok (.getfield 27, 3) := by decide +kernel
theorem dX1_addDish_20 : decode cX1_addDish 20 = .ok (.iconst 1, 1) := by decide +kernel
theorem dX1_addDish_21 : decode cX1_addDish 21 = .ok (.iadd, 1) := by decide +kernel
theorem dX1_addDish_22 : decode cX1_addDish 22 = .ok (.putfield 27, 3) := by decide +kernel
theorem dX1_addDish_25 : decode cX1_addDish 25 = .ok (.aload_n 2, 1) := by decide +kernel
theorem dX1_addDish_26 : decode cX1_addDish 26 = .ok (.areturn, 1) := by decide +kernel
theorem dX1_deedNow_0 : decode cX1_deedNow 0 = .ok (.aload_n 0, 1) := by decide +kernel
theorem dX1_deedNow_1 : decode cX1_deedNow 1 = .ok (.getfield 30, 3) := by decide +kernel
theorem dX1_deedNow_4 : decode cX1_deedNow 4 = .ok (.aload_n 0, 1) := by decide +kernel
theorem dX1_deedNow_5 : decode cX1_deedNow 5 = .ok (.getfield 21, 3) := by decide +kernel
theorem dX1_deedNow_8 : decode cX1_deedNow 8 = .ok (.bipush 6, 2) := by decide +kernel
theorem dX1_deedNow_10 : decode cX1_deedNow 10 = .ok (.irem, 1) := by decide +kernel
theorem dX1_deedNow_11 : decode cX1_deedNow 11 = .ok (.iaload, 1) := by decide +kernel
theorem dX1_deedNow_12 : decode cX1_deedNow 12 = .ok (.ireturn, 1) := by decide +kernel
theorem dX1_passSteps_0 : decode cX1_passSteps 0 = .ok (.iconst 0, 1) := by decide +kernel
theorem dX1_passSteps_1 : decode cX1_passSteps 1 = .ok (.istore_n 2, 1) := by decide +kernel
theorem dX1_passSteps_2 : decode cX1_passSteps 2 = .ok (.iload_n 2, 1) := by decide +kernel
theorem dX1_passSteps_3 : decode cX1_passSteps 3 = .ok (.iload_n 1, 1) := by decide +kernel
theorem dX1_passSteps_4 : decode cX1_passSteps 4 = .ok (.if_icmp .ge 13, 3) := by decide +kernel
theorem dX1_passSteps_7 : decode cX1_passSteps 7 = .ok (.aload_n 0, 1) := by decide +kernel
theorem dX1_passSteps_8 : decode cX1_passSteps 8 = .ok (.invokevirtual 68, 3) := by decide +kernel
theorem dX1_passSteps_11 : decode cX1_passSteps 11 = .ok (.iinc 2 1, 3) := by decide +kernel
theorem dX1_passSteps_14 : decode cX1_passSteps 14 = .ok (.goto (-12), 3) := by decide +kernel
theorem dX1_passSteps_17 : decode cX1_passSteps 17 = .ok (.return_, 1) := by decide +kernel
theorem dX1_passStep_0 : decode cX1_passStep 0 = .ok (.aload_n 0, 1) := by decide +kernel
theorem dX1_passStep_1 : decode cX1_passStep 1 = .ok (.invokevirtual 71, 3) := by decide +kernel
theorem dX1_passStep_4 : decode cX1_passStep 4 = .ok (.istore_n 1, 1) := by decide +kernel
theorem dX1_passStep_5 : decode cX1_passStep 5 = .ok (.aload_n 0, 1) := by decide +kernel
theorem dX1_passStep_6 : decode cX1_passStep 6 = .ok (.aload_n 0, 1) := by decide +kernel
theorem dX1_passStep_7 : decode cX1_passStep 7 = .ok (.getfield 9, 3) := by decide +kernel
theorem dX1_passStep_10 : decode cX1_passStep 10 = .ok (.iload_n 1, 1) := by decide +kernel
theorem dX1_passStep_11 : decode cX1_passStep 11 = .ok (.invokestatic 75, 3) := by decide +kernel
theorem dX1_passStep_14 : decode cX1_passStep 14 = .ok (.putfield 9, 3) := by decide +kernel
theorem dX1_passStep_17 : decode cX1_passStep 17 = .ok (.iconst 0, 1) := by decide +kernel
theorem dX1_passStep_18 : decode cX1_passStep 18 = .ok (.istore_n 2, 1) := by decide +kernel
theorem dX1_passStep_19 : decode cX1_passStep 19 = .ok (.iload_n 2, 1) := by decide +kernel
theorem dX1_passStep_20 : decode cX1_passStep 20 = .ok (.aload_n 0, 1) := by decide +kernel
theorem dX1_passStep_21 : decode cX1_passStep 21 = .ok (.getfield 27, 3) := by decide +kernel
theorem dX1_passStep_24 : decode cX1_passStep 24 = .ok (.if_icmp .ge 39, 3) := by decide +kernel
theorem dX1_passStep_27 : decode cX1_passStep 27 = .ok (.aload_n 0, 1) := by decide +kernel
theorem dX1_passStep_28 : decode cX1_passStep 28 = .ok (.getfield 39, 3) := by decide +kernel
theorem dX1_passStep_31 : decode cX1_passStep 31 = .ok (.iload_n 2, 1) := by decide +kernel
theorem dX1_passStep_32 : decode cX1_passStep 32 = .ok (.aaload, 1) := by decide +kernel
theorem dX1_passStep_33 : decode cX1_passStep 33 = .ok (.invokevirtual 79, 3) := by decide +kernel
theorem dX1_passStep_36 : decode cX1_passStep 36 = .ok (.ifCond .eq 21, 3) := by decide +kernel
theorem dX1_passStep_39 : decode cX1_passStep 39 = .ok (.aload_n 0, 1) := by decide +kernel
theorem dX1_passStep_40 : decode cX1_passStep 40 = .ok (.getfield 39, 3) := by decide +kernel
theorem dX1_passStep_43 : decode cX1_passStep 43 = .ok (.iload_n 2, 1) := by decide +kernel
theorem dX1_passStep_44 : decode cX1_passStep 44 = .ok (.aaload, 1) := by decide +kernel
theorem dX1_passStep_45 : decode cX1_passStep 45 = .ok (.aload_n 0, 1) := by decide +kernel
theorem dX1_passStep_46 : decode cX1_passStep 46 = .ok (.getfield 9, 3) := by decide +kernel
theorem dX1_passStep_49 : decode cX1_passStep 49 = .ok (.aload_n 0, 1) := by decide +kernel
theorem dX1_passStep_50 : decode cX1_passStep 50 = .ok (.getfield 15, 3) := by decide +kernel
theorem dX1_passStep_53 : decode cX1_passStep 53 = .ok (.iload_n 1, 1) := by decide +kernel
theorem dX1_passStep_54 : decode cX1_passStep 54 = .ok (.invokevirtual 83, 3) := by decide +kernel
theorem dX1_passStep_57 : decode cX1_passStep 57 = .ok (.iinc 2 1, 3) := by decide +kernel
theorem dX1_passStep_60 : decode cX1_passStep 60 = .ok (.goto (-41), 3) := by decide +kernel
theorem dX1_passStep_63 : decode cX1_passStep 63 = .ok (.aload_n 0, 1) := by decide +kernel
theorem dX1_passStep_64 : decode cX1_passStep 64 = .ok (.ldc 87, 2) := by decide +kernel
theorem dX1_passStep_66 : decode cX1_passStep 66 = .ok (.aload_n 0, 1) := by decide +kernel
theorem dX1_passStep_67 : decode cX1_passStep 67 = .ok (.getfield 21, 3) := by decide +kernel
theorem dX1_passStep_70 : decode cX1_passStep 70 = .ok (.iconst 1, 1) := by decide +kernel
theorem dX1_passStep_71 : decode cX1_passStep 71 = .ok (.iadd, 1) := by decide +kernel
theorem dX1_passStep_72 : decode cX1_passStep 72 = .ok (.invokestatic 88, 3) := by decide +kernel
theorem dX1_passStep_75 : decode cX1_passStep 75 = .ok (.putfield 21, 3) := by decide +kernel
theorem dX1_passStep_78 : decode cX1_passStep 78 = .ok (.return_, 1) := by decide +kernel
theorem dX1_serviceStep_0 : decode cX1_serviceStep 0 = .ok (.aload_n 0, 1) := by decide +kernel
theorem dX1_serviceStep_1 : decode cX1_serviceStep 1 = .ok (.invokevirtual 93, 3) := by decide +kernel
theorem dX1_serviceStep_4 : decode cX1_serviceStep 4 = .ok (.istore_n 1, 1) := by decide +kernel
theorem dX1_serviceStep_5 : decode cX1_serviceStep 5 = .ok (.aload_n 0, 1) := by decide +kernel
theorem dX1_serviceStep_6 : decode cX1_serviceStep 6 = .ok (.invokevirtual 93, 3) := by decide +kernel
theorem dX1_serviceStep_9 : decode cX1_serviceStep 9 = .ok (.istore_n 2, 1) := by decide +kernel
theorem dX1_serviceStep_10 : decode cX1_serviceStep 10 = .ok (.aload_n 0, 1) := by decide +kernel
theorem dX1_serviceStep_11 : decode cX1_serviceStep 11 = .ok (.getfield 30, 3) := by decide +kernel
theorem dX1_serviceStep_14 : decode cX1_serviceStep 14 = .ok (.aload_n 0, 1) := by decide +kernel
theorem dX1_serviceStep_15 : decode cX1_serviceStep 15 = .ok (.getfield 21, 3) := by decide +kernel
theorem dX1_serviceStep_18 : decode cX1_serviceStep 18 = .ok (.bipush 6, 2) := by decide +kernel
theorem dX1_serviceStep_20 : decode cX1_serviceStep 20 = .ok (.irem, 1) := by decide +kernel
theorem dX1_serviceStep_21 : decode cX1_serviceStep 21 = .ok (.iload_n 1, 1) := by decide +kernel
theorem dX1_serviceStep_22 : decode cX1_serviceStep 22 = .ok (.bipush 12, 2) := by decide +kernel
theorem dX1_serviceStep_24 : decode cX1_serviceStep 24 = .ok (.irem, 1) := by decide +kernel
theorem dX1_serviceStep_25 : decode cX1_serviceStep 25 = .ok (.iastore, 1) := by decide +kernel
theorem dX1_serviceStep_26 : decode cX1_serviceStep 26 = .ok (.aload_n 0, 1) := by decide +kernel
theorem dX1_serviceStep_27 : decode cX1_serviceStep 27 = .ok (.invokevirtual 68, 3) := by decide +kernel
theorem dX1_serviceStep_30 : decode cX1_serviceStep 30 = .ok (.iload_n 2, 1) := by decide +kernel
theorem dX1_serviceStep_31 : decode cX1_serviceStep 31 = .ok (.bipush 8, 2) := by decide +kernel
theorem dX1_serviceStep_33 : decode cX1_serviceStep 33 = .ok (.irem, 1) := by decide +kernel
theorem dX1_serviceStep_34 : decode cX1_serviceStep 34 = .ok (.istore_n 3, 1) := by decide +kernel
theorem dX1_serviceStep_35 : decode cX1_serviceStep 35 = .ok (.iload_n 3, 1) := by decide +kernel
theorem dX1_serviceStep_36 : decode cX1_serviceStep 36 = .ok (.aload_n 0, 1) := by decide +kernel
theorem dX1_serviceStep_37 : decode cX1_serviceStep 37 = .ok (.getfield 27, 3) := by decide +kernel
theorem dX1_serviceStep_40 : decode cX1_serviceStep 40 = .ok (.if_icmp .ge 21, 3) := by decide +kernel
theorem dX1_serviceStep_43 : decode cX1_serviceStep 43 = .ok (.aload_n 0, 1) := by decide +kernel
theorem dX1_serviceStep_44 : decode cX1_serviceStep 44 = .ok (.getfield 39, 3) := by decide +kernel
theorem dX1_serviceStep_47 : decode cX1_serviceStep 47 = .ok (.iload_n 3, 1) := by decide +kernel
theorem dX1_serviceStep_48 : decode cX1_serviceStep 48 = .ok (.aaload, 1) := by decide +kernel
theorem dX1_serviceStep_49 : decode cX1_serviceStep 49 = .ok (.getfield 96, 3) := by decide +kernel
theorem dX1_serviceStep_52 : decode cX1_serviceStep 52 = .ok (.ifCond .ne 9, 3) := by decide +kernel
theorem dX1_serviceStep_55 : decode cX1_serviceStep 55 = .ok (.aload_n 0, 1) := by decide +kernel
theorem dX1_serviceStep_56 : decode cX1_serviceStep 56 = .ok (.iload_n 3, 1) := by decide +kernel
theorem dX1_serviceStep_57 : decode cX1_serviceStep 57 = .ok (.invokevirtual 99, 3) := by decide +kernel
theorem dX1_serviceStep_60 : decode cX1_serviceStep 60 = .ok (.pop, 1) := by decide +kernel
theorem dX1_serviceStep_61 : decode cX1_serviceStep 61 = .ok (.return_, 1) := by decide +kernel
theorem dX1_draw_0 : decode cX1_draw 0 = .ok (.aload_n 0, 1) := by decide +kernel
theorem dX1_draw_1 : decode cX1_draw 1 = .ok (.aload_n 0, 1) := by decide +kernel
theorem dX1_draw_2 : decode cX1_draw 2 = .ok (.getfield 24, 3) := by decide +kernel
theorem dX1_draw_5 : decode cX1_draw 5 = .ok (.ldc 103, 2) := by decide +kernel
theorem dX1_draw_7 : decode cX1_draw 7 = .ok (.imul, 1) := by decide +kernel
theorem dX1_draw_8 : decode cX1_draw 8 = .ok (.sipush 12345, 3) := by decide +kernel
theorem dX1_draw_11 : decode cX1_draw 11 = .ok (.iadd, 1) := by decide +kernel
theorem dX1_draw_12 : decode cX1_draw 12 = .ok (.putfield 24, 3) := by decide +kernel
theorem dX1_draw_15 : decode cX1_draw 15 = .ok (.aload_n 0, 1) := by decide +kernel
theorem dX1_draw_16 : decode cX1_draw 16 = .ok (.getfield 24, 3) := by decide +kernel
theorem dX1_draw_19 : decode cX1_draw 19 = .ok (.bipush 8, 2) := by decide +kernel
theorem dX1_draw_21 : decode cX1_draw 21 = .ok (.iushr, 1) := by decide +kernel
theorem dX1_draw_22 : decode cX1_draw 22 = .ok (.ireturn, 1) := by decide +kernel
theorem dX1_serveDish_0 : decode cX1_serveDish 0 = .ok (.aload_n 0, 1) := by decide +kernel
theorem dX1_serveDish_1 : decode cX1_serveDish 1 = .ok (.iload_n 1, 1) := by decide +kernel
theorem dX1_serveDish_2 : decode cX1_serveDish 2 = .ok (.invokevirtual 104, 3) := by decide +kernel
theorem dX1_serveDish_5 : decode cX1_serveDish 5 = .ok (.istore_n 2, 1) := by decide +kernel
theorem dX1_serveDish_6 : decode cX1_serveDish 6 = .ok (.aload_n 0, 1) := by decide +kernel
theorem dX1_serveDish_7 : decode cX1_serveDish 7 = .ok (.ldc 87, 2) := by decide +kernel
theorem dX1_serveDish_9 : decode cX1_serveDish 9 = .ok (.aload_n 0, 1) := by decide +kernel
theorem dX1_serveDish_10 : decode cX1_serveDish 10 = .ok (.getfield 18, 3) := by decide +kernel
theorem dX1_serveDish_13 : decode cX1_serveDish 13 = .ok (.iload_n 2, 1) := by decide +kernel
theorem dX1_serveDish_14 : decode cX1_serveDish 14 = .ok (.iadd, 1) := by decide +kernel
theorem dX1_serveDish_15 : decode cX1_serveDish 15 = .ok (.invokestatic 88, 3) := by decide +kernel
theorem dX1_serveDish_18 : decode cX1_serveDish 18 = .ok (.putfield 18, 3) := by decide +kernel
theorem dX1_serveDish_21 : decode cX1_serveDish 21 = .ok (.aload_n 0, 1) := by decide +kernel
theorem dX1_serveDish_22 : decode cX1_serveDish 22 = .ok (.getfield 39, 3) := by decide +kernel
theorem dX1_serveDish_25 : decode cX1_serveDish 25 = .ok (.iload_n 1, 1) := by decide +kernel
theorem dX1_serveDish_26 : decode cX1_serveDish 26 = .ok (.aaload, 1) := by decide +kernel
theorem dX1_serveDish_27 : decode cX1_serveDish 27 = .ok (.invokevirtual 107, 3) := by decide +kernel
theorem dX1_serveDish_30 : decode cX1_serveDish 30 = .ok (.iload_n 2, 1) := by decide +kernel
theorem dX1_serveDish_31 : decode cX1_serveDish 31 = .ok (.ireturn, 1) := by decide +kernel
theorem dX1_given_0 : decode cX1_given 0 = .ok (.aload_n 0, 1) := by decide +kernel
theorem dX1_given_1 : decode cX1_given 1 = .ok (.getfield 39, 3) := by decide +kernel
theorem dX1_given_4 : decode cX1_given 4 = .ok (.iload_n 1, 1) := by decide +kernel
theorem dX1_given_5 : decode cX1_given 5 = .ok (.aaload, 1) := by decide +kernel
theorem dX1_given_6 : decode cX1_given 6 = .ok (.aload_n 0, 1) := by decide +kernel
theorem dX1_given_7 : decode cX1_given 7 = .ok (.getfield 9, 3) := by decide +kernel
theorem dX1_given_10 : decode cX1_given 10 = .ok (.invokevirtual 110, 3) := by decide +kernel
theorem dX1_given_13 : decode cX1_given 13 = .ok (.ireturn, 1) := by decide +kernel
theorem dX1_told_0 : decode cX1_told 0 = .ok (.aload_n 0, 1) := by decide +kernel
theorem dX1_told_1 : decode cX1_told 1 = .ok (.getfield 39, 3) := by decide +kernel
theorem dX1_told_4 : decode cX1_told 4 = .ok (.iload_n 1, 1) := by decide +kernel
theorem dX1_told_5 : decode cX1_told 5 = .ok (.aaload, 1) := by decide +kernel
theorem dX1_told_6 : decode cX1_told 6 = .ok (.astore_n 3, 1) := by decide +kernel
theorem dX1_told_7 : decode cX1_told 7 = .ok (.iload_n 2, 1) := by decide +kernel
theorem dX1_told_8 : decode cX1_told 8 = .ok (.tableswitch 126 0 9 #[56, 61, 66, 71, 76, 81, 86, 95, 112, 121], 56) := by decide +kernel
theorem dX1_told_64 : decode cX1_told 64 = .ok (.aload_n 3, 1) := by decide +kernel
theorem dX1_told_65 : decode cX1_told 65 = .ok (.getfield 113, 3) := by decide +kernel
theorem dX1_told_68 : decode cX1_told 68 = .ok (.ireturn, 1) := by decide +kernel
theorem dX1_told_69 : decode cX1_told 69 = .ok (.aload_n 3, 1) := by decide +kernel
theorem dX1_told_70 : decode cX1_told 70 = .ok (.getfield 116, 3) := by decide +kernel
theorem dX1_told_73 : decode cX1_told 73 = .ok (.ireturn, 1) := by decide +kernel
theorem dX1_told_74 : decode cX1_told 74 = .ok (.aload_n 3, 1) := by decide +kernel
theorem dX1_told_75 : decode cX1_told 75 = .ok (.getfield 119, 3) := by decide +kernel
theorem dX1_told_78 : decode cX1_told 78 = .ok (.ireturn, 1) := by decide +kernel
theorem dX1_told_79 : decode cX1_told 79 = .ok (.aload_n 3, 1) := by decide +kernel
theorem dX1_told_80 : decode cX1_told 80 = .ok (.getfield 122, 3) := by decide +kernel
theorem dX1_told_83 : decode cX1_told 83 = .ok (.ireturn, 1) := by decide +kernel
theorem dX1_told_84 : decode cX1_told 84 = .ok (.aload_n 3, 1) := by decide +kernel
theorem dX1_told_85 : decode cX1_told 85 = .ok (.getfield 96, 3) := by decide +kernel
theorem dX1_told_88 : decode cX1_told 88 = .ok (.ireturn, 1) := by decide +kernel
theorem dX1_told_89 : decode cX1_told 89 = .ok (.aload_n 3, 1) := by decide +kernel
theorem dX1_told_90 : decode cX1_told 90 = .ok (.getfield 125, 3) := by decide +kernel
theorem dX1_told_93 : decode cX1_told 93 = .ok (.ireturn, 1) := by decide +kernel
theorem dX1_told_94 : decode cX1_told 94 = .ok (.aload_n 3, 1) := by decide +kernel
theorem dX1_told_95 : decode cX1_told 95 = .ok (.aload_n 0, 1) := by decide +kernel
theorem dX1_told_96 : decode cX1_told 96 = .ok (.getfield 15, 3) := by decide +kernel
theorem dX1_told_99 : decode cX1_told 99 = .ok (.invokevirtual 128, 3) := by decide +kernel
theorem dX1_told_102 : decode cX1_told 102 = .ok (.ireturn, 1) := by decide +kernel
theorem dX1_told_103 : decode cX1_told 103 = .ok (.aload_n 3, 1) := by decide +kernel
theorem dX1_told_104 : decode cX1_told 104 = .ok (.aload_n 0, 1) := by decide +kernel
theorem dX1_told_105 : decode cX1_told 105 = .ok (.getfield 9, 3) := by decide +kernel
theorem dX1_told_108 : decode cX1_told 108 = .ok (.aload_n 0, 1) := by decide +kernel
theorem dX1_told_109 : decode cX1_told 109 = .ok (.getfield 15, 3) := by decide +kernel
theorem dX1_told_112 : decode cX1_told 112 = .ok (.aload_n 0, 1) := by decide +kernel
theorem dX1_told_113 : decode cX1_told 113 = .ok (.invokevirtual 71, 3) := by decide +kernel
theorem dX1_told_116 : decode cX1_told 116 = .ok (.invokevirtual 131, 3) := by decide +kernel
theorem dX1_told_119 : decode cX1_told 119 = .ok (.ireturn, 1) := by decide +kernel
theorem dX1_told_120 : decode cX1_told 120 = .ok (.aload_n 3, 1) := by decide +kernel
theorem dX1_told_121 : decode cX1_told 121 = .ok (.aload_n 0, 1) := by decide +kernel
theorem dX1_told_122 : decode cX1_told 122 = .ok (.invokevirtual 71, 3) := by decide +kernel
theorem dX1_told_125 : decode cX1_told 125 = .ok (.invokevirtual 135, 3) := by decide +kernel
theorem dX1_told_128 : decode cX1_told 128 = .ok (.ireturn, 1) := by decide +kernel
theorem dX1_told_129 : decode cX1_told 129 = .ok (.aload_n 3, 1) := by decide +kernel
theorem dX1_told_130 : decode cX1_told 130 = .ok (.invokevirtual 138, 3) := by decide +kernel
theorem dX1_told_133 : decode cX1_told 133 = .ok (.ireturn, 1) := by decide +kernel
theorem dX1_told_134 : decode cX1_told 134 = .ok (.aload_n 3, 1) := by decide +kernel
theorem dX1_told_135 : decode cX1_told 135 = .ok (.aload_n 0, 1) := by decide +kernel
theorem dX1_told_136 : decode cX1_told 136 = .ok (.getfield 9, 3) := by decide +kernel
theorem dX1_told_139 : decode cX1_told 139 = .ok (.invokevirtual 110, 3) := by decide +kernel
theorem dX1_told_142 : decode cX1_told 142 = .ok (.ireturn, 1) := by decide +kernel
theorem dX1_splitSet_0 : decode cX1_splitSet 0 = .ok (.iconst 0, 1) := by decide +kernel
theorem dX1_splitSet_1 : decode cX1_splitSet 1 = .ok (.istore_n 1, 1) := by decide +kernel
theorem dX1_splitSet_2 : decode cX1_splitSet 2 = .ok (.iconst 0, 1) := by decide +kernel
theorem dX1_splitSet_3 : decode cX1_splitSet 3 = .ok (.istore_n 2, 1) := by decide +kernel
theorem dX1_splitSet_4 : decode cX1_splitSet 4 = .ok (.iload_n 2, 1) := by decide +kernel
theorem dX1_splitSet_5 : decode cX1_splitSet 5 = .ok (.aload_n 0, 1) := by decide +kernel
theorem dX1_splitSet_6 : decode cX1_splitSet 6 = .ok (.getfield 27, 3) := by decide +kernel
theorem dX1_splitSet_9 : decode cX1_splitSet 9 = .ok (.if_icmp .ge 23, 3) := by decide +kernel
theorem dX1_splitSet_12 : decode cX1_splitSet 12 = .ok (.iload_n 1, 1) := by decide +kernel
theorem dX1_splitSet_13 : decode cX1_splitSet 13 = .ok (.aload_n 0, 1) := by decide +kernel
theorem dX1_splitSet_14 : decode cX1_splitSet 14 = .ok (.getfield 39, 3) := by decide +kernel
theorem dX1_splitSet_17 : decode cX1_splitSet 17 = .ok (.iload_n 2, 1) := by decide +kernel
theorem dX1_splitSet_18 : decode cX1_splitSet 18 = .ok (.aaload, 1) := by decide +kernel
theorem dX1_splitSet_19 : decode cX1_splitSet 19 = .ok (.getfield 122, 3) := by decide +kernel
theorem dX1_splitSet_22 : decode cX1_splitSet 22 = .ok (.iload_n 2, 1) := by decide +kernel
theorem dX1_splitSet_23 : decode cX1_splitSet 23 = .ok (.ishl, 1) := by decide +kernel
theorem dX1_splitSet_24 : decode cX1_splitSet 24 = .ok (.ior, 1) := by decide +kernel
theorem dX1_splitSet_25 : decode cX1_splitSet 25 = .ok (.istore_n 1, 1) := by decide +kernel
theorem dX1_splitSet_26 : decode cX1_splitSet 26 = .ok (.iinc 2 1, 3) := by decide +kernel
theorem dX1_splitSet_29 : decode cX1_splitSet 29 = .ok (.goto (-25), 3) := by decide +kernel
theorem dX1_splitSet_32 : decode cX1_splitSet 32 = .ok (.iload_n 1, 1) := by decide +kernel
theorem dX1_splitSet_33 : decode cX1_splitSet 33 = .ok (.ireturn, 1) := by decide +kernel
theorem dX1_offSet_0 : decode cX1_offSet 0 = .ok (.iconst 0, 1) := by decide +kernel
theorem dX1_offSet_1 : decode cX1_offSet 1 = .ok (.istore_n 1, 1) := by decide +kernel
theorem dX1_offSet_2 : decode cX1_offSet 2 = .ok (.iconst 0, 1) := by decide +kernel
theorem dX1_offSet_3 : decode cX1_offSet 3 = .ok (.istore_n 2, 1) := by decide +kernel
theorem dX1_offSet_4 : decode cX1_offSet 4 = .ok (.iload_n 2, 1) := by decide +kernel
theorem dX1_offSet_5 : decode cX1_offSet 5 = .ok (.aload_n 0, 1) := by decide +kernel
theorem dX1_offSet_6 : decode cX1_offSet 6 = .ok (.getfield 27, 3) := by decide +kernel
theorem dX1_offSet_9 : decode cX1_offSet 9 = .ok (.if_icmp .ge 23, 3) := by decide +kernel
theorem dX1_offSet_12 : decode cX1_offSet 12 = .ok (.iload_n 1, 1) := by decide +kernel
theorem dX1_offSet_13 : decode cX1_offSet 13 = .ok (.aload_n 0, 1) := by decide +kernel
theorem dX1_offSet_14 : decode cX1_offSet 14 = .ok (.getfield 39, 3) := by decide +kernel
theorem dX1_offSet_17 : decode cX1_offSet 17 = .ok (.iload_n 2, 1) := by decide +kernel
theorem dX1_offSet_18 : decode cX1_offSet 18 = .ok (.aaload, 1) := by decide +kernel
theorem dX1_offSet_19 : decode cX1_offSet 19 = .ok (.getfield 96, 3) := by decide +kernel
theorem dX1_offSet_22 : decode cX1_offSet 22 = .ok (.iload_n 2, 1) := by decide +kernel
theorem dX1_offSet_23 : decode cX1_offSet 23 = .ok (.ishl, 1) := by decide +kernel
theorem dX1_offSet_24 : decode cX1_offSet 24 = .ok (.ior, 1) := by decide +kernel
theorem dX1_offSet_25 : decode cX1_offSet 25 = .ok (.istore_n 1, 1) := by decide +kernel
theorem dX1_offSet_26 : decode cX1_offSet 26 = .ok (.iinc 2 1, 3) := by decide +kernel
theorem dX1_offSet_29 : decode cX1_offSet 29 = .ok (.goto (-25), 3) := by decide +kernel
theorem dX1_offSet_32 : decode cX1_offSet 32 = .ok (.iload_n 1, 1) := by decide +kernel
theorem dX1_offSet_33 : decode cX1_offSet 33 = .ok (.ireturn, 1) := by decide +kernel
theorem dX1_endangeredSet_0 : decode cX1_endangeredSet 0 = .ok (.iconst 0, 1) := by decide +kernel
theorem dX1_endangeredSet_1 : decode cX1_endangeredSet 1 = .ok (.istore_n 1, 1) := by decide +kernel
theorem dX1_endangeredSet_2 : decode cX1_endangeredSet 2 = .ok (.iconst 0, 1) := by decide +kernel
theorem dX1_endangeredSet_3 : decode cX1_endangeredSet 3 = .ok (.istore_n 2, 1) := by decide +kernel
theorem dX1_endangeredSet_4 : decode cX1_endangeredSet 4 = .ok (.iload_n 2, 1) := by decide +kernel
theorem dX1_endangeredSet_5 : decode cX1_endangeredSet 5 = .ok (.aload_n 0, 1) := by decide +kernel
theorem dX1_endangeredSet_6 : decode cX1_endangeredSet 6 = .ok (.getfield 27, 3) := by decide +kernel
theorem dX1_endangeredSet_9 : decode cX1_endangeredSet 9 = .ok (.if_icmp .ge 47, 3) := by decide +kernel
theorem dX1_endangeredSet_12 : decode cX1_endangeredSet 12 = .ok (.aload_n 0, 1) := by decide +kernel
theorem dX1_endangeredSet_13 : decode cX1_endangeredSet 13 = .ok (.getfield 39, 3) := by decide +kernel
theorem dX1_endangeredSet_16 : decode cX1_endangeredSet 16 = .ok (.iload_n 2, 1) := by decide +kernel
theorem dX1_endangeredSet_17 : decode cX1_endangeredSet 17 = .ok (.aaload, 1) := by decide +kernel
theorem dX1_endangeredSet_18 : decode cX1_endangeredSet 18 = .ok (.invokevirtual 79, 3) := by decide +kernel
theorem dX1_endangeredSet_21 : decode cX1_endangeredSet 21 = .ok (.ifCond .eq 29, 3) := by decide +kernel
theorem dX1_endangeredSet_24 : decode cX1_endangeredSet 24 = .ok (.aload_n 0, 1) := by decide +kernel
theorem dX1_endangeredSet_25 : decode cX1_endangeredSet 25 = .ok (.getfield 9, 3) := by decide +kernel
theorem dX1_endangeredSet_28 : decode cX1_endangeredSet 28 = .ok (.aload_n 0, 1) := by decide +kernel
theorem dX1_endangeredSet_29 : decode cX1_endangeredSet 29 = .ok (.getfield 39, 3) := by decide +kernel
theorem dX1_endangeredSet_32 : decode cX1_endangeredSet 32 = .ok (.iload_n 2, 1) := by decide +kernel
theorem dX1_endangeredSet_33 : decode cX1_endangeredSet 33 = .ok (.aaload, 1) := by decide +kernel
theorem dX1_endangeredSet_34 : decode cX1_endangeredSet 34 = .ok (.aload_n 0, 1) := by decide +kernel
theorem dX1_endangeredSet_35 : decode cX1_endangeredSet 35 = .ok (.getfield 15, 3) := by decide +kernel
theorem dX1_endangeredSet_38 : decode cX1_endangeredSet 38 = .ok (.invokevirtual 128, 3) := by decide +kernel
theorem dX1_endangeredSet_41 : decode cX1_endangeredSet 41 = .ok (.if_icmp .ge 9, 3) := by decide +kernel
theorem dX1_endangeredSet_44 : decode cX1_endangeredSet 44 = .ok (.iload_n 1, 1) := by decide +kernel
theorem dX1_endangeredSet_45 : decode cX1_endangeredSet 45 = .ok (.iconst 1, 1) := by decide +kernel
theorem dX1_endangeredSet_46 : decode cX1_endangeredSet 46 = .ok (.iload_n 2, 1) := by decide +kernel
theorem dX1_endangeredSet_47 : decode cX1_endangeredSet 47 = .ok (.ishl, 1) := by decide +kernel
theorem dX1_endangeredSet_48 : decode cX1_endangeredSet 48 = .ok (.ior, 1) := by decide +kernel
theorem dX1_endangeredSet_49 : decode cX1_endangeredSet 49 = .ok (.istore_n 1, 1) := by decide +kernel
theorem dX1_endangeredSet_50 : decode cX1_endangeredSet 50 = .ok (.iinc 2 1, 3) := by decide +kernel
theorem dX1_endangeredSet_53 : decode cX1_endangeredSet 53 = .ok (.goto (-49), 3) := by decide +kernel
theorem dX1_endangeredSet_56 : decode cX1_endangeredSet 56 = .ok (.iload_n 1, 1) := by decide +kernel
theorem dX1_endangeredSet_57 : decode cX1_endangeredSet 57 = .ok (.ireturn, 1) := by decide +kernel
theorem dX1_givenForAll_0 : decode cX1_givenForAll 0 = .ok (.iconst 0, 1) := by decide +kernel
theorem dX1_givenForAll_1 : decode cX1_givenForAll 1 = .ok (.istore_n 1, 1) := by decide +kernel
theorem dX1_givenForAll_2 : decode cX1_givenForAll 2 = .ok (.iconst 0, 1) := by decide +kernel
theorem dX1_givenForAll_3 : decode cX1_givenForAll 3 = .ok (.istore_n 2, 1) := by decide +kernel
theorem dX1_givenForAll_4 : decode cX1_givenForAll 4 = .ok (.iload_n 2, 1) := by decide +kernel
theorem dX1_givenForAll_5 : decode cX1_givenForAll 5 = .ok (.aload_n 0, 1) := by decide +kernel
theorem dX1_givenForAll_6 : decode cX1_givenForAll 6 = .ok (.getfield 27, 3) := by decide +kernel
theorem dX1_givenForAll_9 : decode cX1_givenForAll 9 = .ok (.if_icmp .ge 17, 3) := by decide +kernel
theorem dX1_givenForAll_12 : decode cX1_givenForAll 12 = .ok (.iload_n 1, 1) := by decide +kernel
theorem dX1_givenForAll_13 : decode cX1_givenForAll 13 = .ok (.aload_n 0, 1) := by decide +kernel
theorem dX1_givenForAll_14 : decode cX1_givenForAll 14 = .ok (.iload_n 2, 1) := by decide +kernel
theorem dX1_givenForAll_15 : decode cX1_givenForAll 15 = .ok (.invokevirtual 104, 3) := by decide +kernel
theorem dX1_givenForAll_18 : decode cX1_givenForAll 18 = .ok (.iadd, 1) := by decide +kernel
theorem dX1_givenForAll_19 : decode cX1_givenForAll 19 = .ok (.istore_n 1, 1) := by decide +kernel
theorem dX1_givenForAll_20 : decode cX1_givenForAll 20 = .ok (.iinc 2 1, 3) := by decide +kernel
theorem dX1_givenForAll_23 : decode cX1_givenForAll 23 = .ok (.goto (-19), 3) := by decide +kernel
theorem dX1_givenForAll_26 : decode cX1_givenForAll 26 = .ok (.iload_n 1, 1) := by decide +kernel
theorem dX1_givenForAll_27 : decode cX1_givenForAll 27 = .ok (.ireturn, 1) := by decide +kernel
theorem dX1_dearest_0 : decode cX1_dearest 0 = .ok (.iconst (-1), 1) := by decide +kernel
theorem dX1_dearest_1 : decode cX1_dearest 1 = .ok (.istore_n 1, 1) := by decide +kernel
theorem dX1_dearest_2 : decode cX1_dearest 2 = .ok (.iconst (-1), 1) := by decide +kernel
theorem dX1_dearest_3 : decode cX1_dearest 3 = .ok (.istore_n 2, 1) := by decide +kernel
theorem dX1_dearest_4 : decode cX1_dearest 4 = .ok (.iconst 0, 1) := by decide +kernel
theorem dX1_dearest_5 : decode cX1_dearest 5 = .ok (.istore_n 3, 1) := by decide +kernel
theorem dX1_dearest_6 : decode cX1_dearest 6 = .ok (.iload_n 3, 1) := by decide +kernel
theorem dX1_dearest_7 : decode cX1_dearest 7 = .ok (.aload_n 0, 1) := by decide +kernel
theorem dX1_dearest_8 : decode cX1_dearest 8 = .ok (.getfield 27, 3) := by decide +kernel
theorem dX1_dearest_11 : decode cX1_dearest 11 = .ok (.if_icmp .ge 26, 3) := by decide +kernel
theorem dX1_dearest_14 : decode cX1_dearest 14 = .ok (.aload_n 0, 1) := by decide +kernel
theorem dX1_dearest_15 : decode cX1_dearest 15 = .ok (.iload_n 3, 1) := by decide +kernel
theorem dX1_dearest_16 : decode cX1_dearest 16 = .ok (.invokevirtual 104, 3) := by decide +kernel
theorem dX1_dearest_19 : decode cX1_dearest 19 = .ok (.iload_n 2, 1) := by decide +kernel
theorem dX1_dearest_20 : decode cX1_dearest 20 = .ok (.if_icmp .le 11, 3) := by decide +kernel
theorem dX1_dearest_23 : decode cX1_dearest 23 = .ok (.aload_n 0, 1) := by decide +kernel
theorem dX1_dearest_24 : decode cX1_dearest 24 = .ok (.iload_n 3, 1) := by decide +kernel
theorem dX1_dearest_25 : decode cX1_dearest 25 = .ok (.invokevirtual 104, 3) := by decide +kernel
theorem dX1_dearest_28 : decode cX1_dearest 28 = .ok (.istore_n 2, 1) := by decide +kernel
theorem dX1_dearest_29 : decode cX1_dearest 29 = .ok (.iload_n 3, 1) := by decide +kernel
theorem dX1_dearest_30 : decode cX1_dearest 30 = .ok (.istore_n 1, 1) := by decide +kernel
theorem dX1_dearest_31 : decode cX1_dearest 31 = .ok (.iinc 3 1, 3) := by decide +kernel
theorem dX1_dearest_34 : decode cX1_dearest 34 = .ok (.goto (-28), 3) := by decide +kernel
theorem dX1_dearest_37 : decode cX1_dearest 37 = .ok (.iload_n 1, 1) := by decide +kernel
theorem dX1_dearest_38 : decode cX1_dearest 38 = .ok (.ireturn, 1) := by decide +kernel
theorem dX1_harmlessDeeds_0 : decode cX1_harmlessDeeds 0 = .ok (.aload_n 0, 1) := by decide +kernel
theorem dX1_harmlessDeeds_1 : decode cX1_harmlessDeeds 1 = .ok (.getfield 39, 3) := by decide +kernel
theorem dX1_harmlessDeeds_4 : decode cX1_harmlessDeeds 4 = .ok (.iload_n 1, 1) := by decide +kernel
theorem dX1_harmlessDeeds_5 : decode cX1_harmlessDeeds 5 = .ok (.aaload, 1) := by decide +kernel
theorem dX1_harmlessDeeds_6 : decode cX1_harmlessDeeds 6 = .ok (.aload_n 0, 1) := by decide +kernel
theorem dX1_harmlessDeeds_7 : decode cX1_harmlessDeeds 7 = .ok (.getfield 15, 3) := by decide +kernel
theorem dX1_harmlessDeeds_10 : decode cX1_harmlessDeeds 10 = .ok (.invokevirtual 128, 3) := by decide +kernel
theorem dX1_harmlessDeeds_13 : decode cX1_harmlessDeeds 13 = .ok (.istore_n 2, 1) := by decide +kernel
theorem dX1_harmlessDeeds_14 : decode cX1_harmlessDeeds 14 = .ok (.iconst 0, 1) := by decide +kernel
theorem dX1_harmlessDeeds_15 : decode cX1_harmlessDeeds 15 = .ok (.istore_n 3, 1) := by decide +kernel
theorem dX1_harmlessDeeds_16 : decode cX1_harmlessDeeds 16 = .ok (.iconst 0, 1) := by decide +kernel
theorem dX1_harmlessDeeds_17 : decode cX1_harmlessDeeds 17 = .ok (.istore 4, 2) := by decide +kernel
theorem dX1_harmlessDeeds_19 : decode cX1_harmlessDeeds 19 = .ok (.iload 4, 2) := by decide +kernel
theorem dX1_harmlessDeeds_21 : decode cX1_harmlessDeeds 21 = .ok (.bipush 12, 2) := by decide +kernel
theorem dX1_harmlessDeeds_23 : decode cX1_harmlessDeeds 23 = .ok (.if_icmp .ge 25, 3) := by decide +kernel
theorem dX1_harmlessDeeds_26 : decode cX1_harmlessDeeds 26 = .ok (.aload_n 0, 1) := by decide +kernel
theorem dX1_harmlessDeeds_27 : decode cX1_harmlessDeeds 27 = .ok (.getfield 9, 3) := by decide +kernel
theorem dX1_harmlessDeeds_30 : decode cX1_harmlessDeeds 30 = .ok (.iload 4, 2) := by decide +kernel
theorem dX1_harmlessDeeds_32 : decode cX1_harmlessDeeds 32 = .ok (.invokestatic 75, 3) := by decide +kernel
theorem dX1_harmlessDeeds_35 : decode cX1_harmlessDeeds 35 = .ok (.iload_n 2, 1) := by decide +kernel
theorem dX1_harmlessDeeds_36 : decode cX1_harmlessDeeds 36 = .ok (.if_icmp .lt 6, 3) := by decide +kernel
theorem dX1_harmlessDeeds_39 : decode cX1_harmlessDeeds 39 = .ok (.iinc 3 1, 3) := by decide +kernel
theorem dX1_harmlessDeeds_42 : decode cX1_harmlessDeeds 42 = .ok (.iinc 4 1, 3) := by decide +kernel
theorem dX1_harmlessDeeds_45 : decode cX1_harmlessDeeds 45 = .ok (.goto (-26), 3) := by decide +kernel
theorem dX1_harmlessDeeds_48 : decode cX1_harmlessDeeds 48 = .ok (.iload_n 3, 1) := by decide +kernel
theorem dX1_harmlessDeeds_49 : decode cX1_harmlessDeeds 49 = .ok (.ireturn, 1) := by decide +kernel
theorem dX1_heldSpots_0 : decode cX1_heldSpots 0 = .ok (.iconst 0, 1) := by decide +kernel
theorem dX1_heldSpots_1 : decode cX1_heldSpots 1 = .ok (.istore_n 1, 1) := by decide +kernel
theorem dX1_heldSpots_2 : decode cX1_heldSpots 2 = .ok (.aload_n 0, 1) := by decide +kernel
theorem dX1_heldSpots_3 : decode cX1_heldSpots 3 = .ok (.getfield 34, 3) := by decide +kernel
theorem dX1_heldSpots_6 : decode cX1_heldSpots 6 = .ok (.astore_n 2, 1) := by decide +kernel
theorem dX1_heldSpots_7 : decode cX1_heldSpots 7 = .ok (.aload_n 2, 1) := by decide +kernel
theorem dX1_heldSpots_8 : decode cX1_heldSpots 8 = .ok (.arraylength, 1) := by decide +kernel
theorem dX1_heldSpots_9 : decode cX1_heldSpots 9 = .ok (.istore_n 3, 1) := by decide +kernel
theorem dX1_heldSpots_10 : decode cX1_heldSpots 10 = .ok (.iconst 0, 1) := by decide +kernel
theorem dX1_heldSpots_11 : decode cX1_heldSpots 11 = .ok (.istore 4, 2) := by decide +kernel
theorem dX1_heldSpots_13 : decode cX1_heldSpots 13 = .ok (.iload 4, 2) := by decide +kernel
theorem dX1_heldSpots_15 : decode cX1_heldSpots 15 = .ok (.iload_n 3, 1) := by decide +kernel
theorem dX1_heldSpots_16 : decode cX1_heldSpots 16 = .ok (.if_icmp .ge 23, 3) := by decide +kernel
theorem dX1_heldSpots_19 : decode cX1_heldSpots 19 = .ok (.aload_n 2, 1) := by decide +kernel
theorem dX1_heldSpots_20 : decode cX1_heldSpots 20 = .ok (.iload 4, 2) := by decide +kernel
theorem dX1_heldSpots_22 : decode cX1_heldSpots 22 = .ok (.iaload, 1) := by decide +kernel
theorem dX1_heldSpots_23 : decode cX1_heldSpots 23 = .ok (.istore 5, 2) := by decide +kernel
theorem dX1_heldSpots_25 : decode cX1_heldSpots 25 = .ok (.iload 5, 2) := by decide +kernel
theorem dX1_heldSpots_27 : decode cX1_heldSpots 27 = .ok (.ifCond .lt 6, 3) := by decide +kernel
theorem dX1_heldSpots_30 : decode cX1_heldSpots 30 = .ok (.iinc 1 1, 3) := by decide +kernel
theorem dX1_heldSpots_33 : decode cX1_heldSpots 33 = .ok (.iinc 4 1, 3) := by decide +kernel
theorem dX1_heldSpots_36 : decode cX1_heldSpots 36 = .ok (.goto (-23), 3) := by decide +kernel
theorem dX1_heldSpots_39 : decode cX1_heldSpots 39 = .ok (.iload_n 1, 1) := by decide +kernel
theorem dX1_heldSpots_40 : decode cX1_heldSpots 40 = .ok (.ireturn, 1) := by decide +kernel
theorem dX2_init_0 : decode cX2_init 0 = .ok (.aload_n 0, 1) := by decide +kernel
theorem dX2_init_1 : decode cX2_init 1 = .ok (.invokespecial 3, 3) := by decide +kernel
theorem dX2_init_4 : decode cX2_init 4 = .ok (.aload_n 0, 1) := by decide +kernel
theorem dX2_init_5 : decode cX2_init 5 = .ok (.iconst 0, 1) := by decide +kernel
theorem dX2_init_6 : decode cX2_init 6 = .ok (.putfield 9, 3) := by decide +kernel
theorem dX2_init_9 : decode cX2_init 9 = .ok (.aload_n 0, 1) := by decide +kernel
theorem dX2_init_10 : decode cX2_init 10 = .ok (.iconst 0, 1) := by decide +kernel
theorem dX2_init_11 : decode cX2_init 11 = .ok (.putfield 15, 3) := by decide +kernel
theorem dX2_init_14 : decode cX2_init 14 = .ok (.aload_n 0, 1) := by decide +kernel
theorem dX2_init_15 : decode cX2_init 15 = .ok (.bipush 40, 2) := by decide +kernel
theorem dX2_init_17 : decode cX2_init 17 = .ok (.newarray .int, 2) := by decide +kernel
theorem dX2_init_19 : decode cX2_init 19 = .ok (.putfield 18, 3) := by decide +kernel
theorem dX2_init_22 : decode cX2_init 22 = .ok (.return_, 1) := by decide +kernel
theorem dX2_isMissing_0 : decode cX2_isMissing 0 = .ok (.aload_n 0, 1) := by decide +kernel
theorem dX2_isMissing_1 : decode cX2_isMissing 1 = .ok (.getfield 9, 3) := by decide +kernel
theorem dX2_isMissing_4 : decode cX2_isMissing 4 = .ok (.ifCond .ne 7, 3) := by decide +kernel
theorem dX2_isMissing_7 : decode cX2_isMissing 7 = .ok (.iconst 1, 1) := by decide +kernel
theorem dX2_isMissing_8 : decode cX2_isMissing 8 = .ok (.goto 4, 3) := by decide +kernel
theorem dX2_isMissing_11 : decode cX2_isMissing 11 = .ok (.iconst 0, 1) := by decide +kernel
theorem dX2_isMissing_12 : decode cX2_isMissing 12 = .ok (.ireturn, 1) := by decide +kernel
theorem dX2_renew_0 : decode cX2_renew 0 = .ok (.aload_n 0, 1) := by decide +kernel
theorem dX2_renew_1 : decode cX2_renew 1 = .ok (.iload_n 1, 1) := by decide +kernel
theorem dX2_renew_2 : decode cX2_renew 2 = .ok (.putfield 9, 3) := by decide +kernel
theorem dX2_renew_5 : decode cX2_renew 5 = .ok (.aload_n 0, 1) := by decide +kernel
theorem dX2_renew_6 : decode cX2_renew 6 = .ok (.iload_n 2, 1) := by decide +kernel
theorem dX2_renew_7 : decode cX2_renew 7 = .ok (.putfield 15, 3) := by decide +kernel
theorem dX2_renew_10 : decode cX2_renew 10 = .ok (.aload_n 0, 1) := by decide +kernel
theorem dX2_renew_11 : decode cX2_renew 11 = .ok (.getfield 18, 3) := by decide +kernel
theorem dX2_renew_14 : decode cX2_renew 14 = .ok (.iconst 0, 1) := by decide +kernel
theorem dX2_renew_15 : decode cX2_renew 15 = .ok (.invokestatic 22, 3) := by decide +kernel
theorem dX2_renew_18 : decode cX2_renew 18 = .ok (.return_, 1) := by decide +kernel
theorem dX2_put_0 : decode cX2_put 0 = .ok (.aload_n 0, 1) := by decide +kernel
theorem dX2_put_1 : decode cX2_put 1 = .ok (.getfield 9, 3) := by decide +kernel
theorem dX2_put_4 : decode cX2_put 4 = .ok (.bipush 8, 2) := by decide +kernel
theorem dX2_put_6 : decode cX2_put 6 = .ok (.if_icmp .ne 14, 3) := by decide +kernel
theorem dX2_put_9 : decode cX2_put 9 = .ok (.aload_n 0, 1) := by decide +kernel
theorem dX2_put_10 : decode cX2_put 10 = .ok (.getfield 18, 3) := by decide +kernel
theorem dX2_put_13 : decode cX2_put 13 = .ok (.iload_n 1, 1) := by decide +kernel
theorem dX2_put_14 : decode cX2_put 14 = .ok (.iload_n 2, 1) := by decide +kernel
theorem dX2_put_15 : decode cX2_put 15 = .ok (.i2b, 1) := by decide +kernel
theorem dX2_put_16 : decode cX2_put 16 = .ok (.iastore, 1) := by decide +kernel
theorem dX2_put_17 : decode cX2_put 17 = .ok (.goto 30, 3) := by decide +kernel
theorem dX2_put_20 : decode cX2_put 20 = .ok (.aload_n 0, 1) := by decide +kernel
theorem dX2_put_21 : decode cX2_put 21 = .ok (.getfield 9, 3) := by decide +kernel
theorem dX2_put_24 : decode cX2_put 24 = .ok (.bipush 16, 2) := by decide +kernel
theorem dX2_put_26 : decode cX2_put 26 = .ok (.if_icmp .ne 14, 3) := by decide +kernel
theorem dX2_put_29 : decode cX2_put 29 = .ok (.aload_n 0, 1) := by decide +kernel
theorem dX2_put_30 : decode cX2_put 30 = .ok (.getfield 18, 3) := by decide +kernel
theorem dX2_put_33 : decode cX2_put 33 = .ok (.iload_n 1, 1) := by decide +kernel
theorem dX2_put_34 : decode cX2_put 34 = .ok (.iload_n 2, 1) := by decide +kernel
theorem dX2_put_35 : decode cX2_put 35 = .ok (.i2s, 1) := by decide +kernel
theorem dX2_put_36 : decode cX2_put 36 = .ok (.iastore, 1) := by decide +kernel
theorem dX2_put_37 : decode cX2_put 37 = .ok (.goto 10, 3) := by decide +kernel
theorem dX2_put_40 : decode cX2_put 40 = .ok (.aload_n 0, 1) := by decide +kernel
theorem dX2_put_41 : decode cX2_put 41 = .ok (.getfield 18, 3) := by decide +kernel
theorem dX2_put_44 : decode cX2_put 44 = .ok (.iload_n 1, 1) := by decide +kernel
theorem dX2_put_45 : decode cX2_put 45 = .ok (.iload_n 2, 1) := by decide +kernel
theorem dX2_put_46 : decode cX2_put 46 = .ok (.iastore, 1) := by decide +kernel
theorem dX2_put_47 : decode cX2_put 47 = .ok (.return_, 1) := by decide +kernel
theorem dX2_hasPart_0 : decode cX2_hasPart 0 = .ok (.iload_n 1, 1) := by decide +kernel
theorem dX2_hasPart_1 : decode cX2_hasPart 1 = .ok (.ifCond .lt 29, 3) := by decide +kernel
theorem dX2_hasPart_4 : decode cX2_hasPart 4 = .ok (.iload_n 2, 1) := by decide +kernel
theorem dX2_hasPart_5 : decode cX2_hasPart 5 = .ok (.ifCond .lt 25, 3) := by decide +kernel
theorem dX2_hasPart_8 : decode cX2_hasPart 8 = .ok (.iload_n 2, 1) := by decide +kernel
theorem dX2_hasPart_9 : decode cX2_hasPart 9 = .ok (.aload_n 0, 1) := by decide +kernel
theorem dX2_hasPart_10 : decode cX2_hasPart 10 = .ok (.getfield 15, 3) := by decide +kernel
theorem dX2_hasPart_13 : decode cX2_hasPart 13 = .ok (.if_icmp .gt 17, 3) := by decide +kernel
theorem dX2_hasPart_16 : decode cX2_hasPart 16 = .ok (.iload_n 1, 1) := by decide +kernel
theorem dX2_hasPart_17 : decode cX2_hasPart 17 = .ok (.aload_n 0, 1) := by decide +kernel
theorem dX2_hasPart_18 : decode cX2_hasPart 18 = .ok (.getfield 15, 3) := by decide +kernel
theorem dX2_hasPart_21 : decode cX2_hasPart 21 = .ok (.iload_n 2, 1) := by decide +kernel
theorem dX2_hasPart_22 : decode cX2_hasPart 22 = .ok (.isub, 1) := by decide +kernel
theorem dX2_hasPart_23 : decode cX2_hasPart 23 = .ok (.if_icmp .gt 7, 3) := by decide +kernel
theorem dX2_hasPart_26 : decode cX2_hasPart 26 = .ok (.iconst 1, 1) := by decide +kernel
theorem dX2_hasPart_27 : decode cX2_hasPart 27 = .ok (.goto 4, 3) := by decide +kernel
theorem dX2_hasPart_30 : decode cX2_hasPart 30 = .ok (.iconst 0, 1) := by decide +kernel
theorem dX2_hasPart_31 : decode cX2_hasPart 31 = .ok (.ireturn, 1) := by decide +kernel
theorem dX3_init_0 : decode cX3_init 0 = .ok (.aload_n 0, 1) := by decide +kernel
theorem dX3_init_1 : decode cX3_init 1 = .ok (.invokespecial 3, 3) := by decide +kernel
theorem dX3_init_4 : decode cX3_init 4 = .ok (.aload_n 0, 1) := by decide +kernel
theorem dX3_init_5 : decode cX3_init 5 = .ok (.bipush 120, 2) := by decide +kernel
theorem dX3_init_7 : decode cX3_init 7 = .ok (.newarray .byte, 2) := by decide +kernel
theorem dX3_init_9 : decode cX3_init 9 = .ok (.putfield 9, 3) := by decide +kernel
theorem dX3_init_12 : decode cX3_init 12 = .ok (.aload_n 0, 1) := by decide +kernel
theorem dX3_init_13 : decode cX3_init 13 = .ok (.iconst 0, 1) := by decide +kernel
theorem dX3_init_14 : decode cX3_init 14 = .ok (.putfield 15, 3) := by decide +kernel
theorem dX3_init_17 : decode cX3_init 17 = .ok (.aload_n 0, 1) := by decide +kernel
theorem dX3_init_18 : decode cX3_init 18 = .ok (.iconst 3, 1) := by decide +kernel
theorem dX3_init_19 : decode cX3_init 19 = .ok (.putfield 19, 3) := by decide +kernel
theorem dX3_init_22 : decode cX3_init 22 = .ok (.aload_n 0, 1) := by decide +kernel
theorem dX3_init_23 : decode cX3_init 23 = .ok (.iconst 0, 1) := by decide +kernel
theorem dX3_init_24 : decode cX3_init 24 = .ok (.putfield 22, 3) := by decide +kernel
theorem dX3_init_27 : decode cX3_init 27 = .ok (.aload_n 0, 1) := by decide +kernel
theorem dX3_init_28 : decode cX3_init 28 = .ok (.iconst 0, 1) := by decide +kernel
theorem dX3_init_29 : decode cX3_init 29 = .ok (.putfield 25, 3) := by decide +kernel
theorem dX3_init_32 : decode cX3_init 32 = .ok (.return_, 1) := by decide +kernel
theorem dX3_append_0 : decode cX3_append 0 = .ok (.iload_n 2, 1) := by decide +kernel
theorem dX3_append_1 : decode cX3_append 1 = .ok (.iconst 1, 1) := by decide +kernel
theorem dX3_append_2 : decode cX3_append 2 = .ok (.isub, 1) := by decide +kernel
theorem dX3_append_3 : decode cX3_append 3 = .ok (.istore_n 3, 1) := by decide +kernel
theorem dX3_append_4 : decode cX3_append 4 = .ok (.iload_n 3, 1) := by decide +kernel
theorem dX3_append_5 : decode cX3_append 5 = .ok (.ifCond .lt 35, 3) := by decide +kernel
theorem dX3_append_8 : decode cX3_append 8 = .ok (.aload_n 0, 1) := by decide +kernel
theorem dX3_append_9 : decode cX3_append 9 = .ok (.getfield 9, 3) := by decide +kernel
theorem dX3_append_12 : decode cX3_append 12 = .ok (.aload_n 0, 1) := by decide +kernel
theorem dX3_append_13 : decode cX3_append 13 = .ok (.getfield 15, 3) := by decide +kernel
theorem dX3_append_16 : decode cX3_append 16 = .ok (.iload_n 1, 1) := by decide +kernel
theorem dX3_append_17 : decode cX3_append 17 = .ok (.bipush 8, 2) := by decide +kernel
theorem dX3_append_19 : decode cX3_append 19 = .ok (.iload_n 3, 1) := by decide +kernel
theorem dX3_append_20 : decode cX3_append 20 = .ok (.imul, 1) := by decide +kernel
theorem dX3_append_21 : decode cX3_append 21 = .ok (.iushr, 1) := by decide +kernel
theorem dX3_append_22 : decode cX3_append 22 = .ok (.i2b, 1) := by decide +kernel
theorem dX3_append_23 : decode cX3_append 23 = .ok (.bastore, 1) := by decide +kernel
theorem dX3_append_24 : decode cX3_append 24 = .ok (.aload_n 0, 1) := by decide +kernel
theorem dX3_append_25 : decode cX3_append 25 = .ok (.dup, 1) := by decide +kernel
theorem dX3_append_26 : decode cX3_append 26 = .ok (.getfield 15, 3) := by decide +kernel
theorem dX3_append_29 : decode cX3_append 29 = .ok (.iconst 1, 1) := by decide +kernel
theorem dX3_append_30 : decode cX3_append 30 = .ok (.iadd, 1) := by decide +kernel
theorem dX3_append_31 : decode cX3_append 31 = .ok (.putfield 15, 3) := by decide +kernel
theorem dX3_append_34 : decode cX3_append 34 = .ok (.iinc 3 (-1), 3) := by decide +kernel
theorem dX3_append_37 : decode cX3_append 37 = .ok (.goto (-33), 3) := by decide +kernel
theorem dX3_append_40 : decode cX3_append 40 = .ok (.return_, 1) := by decide +kernel
theorem dX3_readText_0 : decode cX3_readText 0 = .ok (.aload_n 0, 1) := by decide +kernel
theorem dX3_readText_1 : decode cX3_readText 1 = .ok (.iconst 0, 1) := by decide +kernel
theorem dX3_readText_2 : decode cX3_readText 2 = .ok (.putfield 25, 3) := by decide +kernel
theorem dX3_readText_5 : decode cX3_readText 5 = .ok (.aload_n 0, 1) := by decide +kernel
theorem dX3_readText_6 : decode cX3_readText 6 = .ok (.invokevirtual 28, 3) := by decide +kernel
theorem dX3_readText_9 : decode cX3_readText 9 = .ok (.iconst 1, 1) := by decide +kernel
theorem dX3_readText_10 : decode cX3_readText 10 = .ok (.istore_n 2, 1) := by decide +kernel
theorem dX3_readText_11 : decode cX3_readText 11 = .ok (.iload_n 2, 1) := by decide +kernel
theorem dX3_readText_12 : decode cX3_readText 12 = .ok (.bipush 120, 2) := by decide +kernel
theorem dX3_readText_14 : decode cX3_readText 14 = .ok (.if_icmp .gt 53, 3) := by decide +kernel
theorem dX3_readText_17 : decode cX3_readText 17 = .ok (.aload_n 0, 1) := by decide +kernel
theorem dX3_readText_18 : decode cX3_readText 18 = .ok (.aload_n 1, 1) := by decide +kernel
theorem dX3_readText_19 : decode cX3_readText 19 = .ok (.invokevirtual 31, 3) := by decide +kernel
theorem dX3_readText_22 : decode cX3_readText 22 = .ok (.ifCond .ne 10, 3) := by decide +kernel
theorem dX3_readText_25 : decode cX3_readText 25 = .ok (.iconst (-1), 1) := by decide +kernel
theorem dX3_readText_26 : decode cX3_readText 26 = .ok (.aload_n 0, 1) := by decide +kernel
theorem dX3_readText_27 : decode cX3_readText 27 = .ok (.getfield 22, 3) := by decide +kernel
theorem dX3_readText_30 : decode cX3_readText 30 = .ok (.isub, 1) := by decide +kernel
theorem dX3_readText_31 : decode cX3_readText 31 = .ok (.ireturn, 1) := by decide +kernel
theorem dX3_readText_32 : decode cX3_readText 32 = .ok (.aload_n 0, 1) := by decide +kernel
theorem dX3_readText_33 : decode cX3_readText 33 = .ok (.getfield 19, 3) := by decide +kernel
theorem dX3_readText_36 : decode cX3_readText 36 = .ok (.iconst 3, 1) := by decide +kernel
theorem dX3_readText_37 : decode cX3_readText 37 = .ok (.if_icmp .ne 5, 3) := by decide +kernel
theorem dX3_readText_40 : decode cX3_readText 40 = .ok (.iload_n 2, 1) := by decide +kernel
theorem dX3_readText_41 : decode cX3_readText 41 = .ok (.ireturn, 1) := by decide +kernel
theorem dX3_readText_42 : decode cX3_readText 42 = .ok (.aload_n 0, 1) := by decide +kernel
theorem dX3_readText_43 : decode cX3_readText 43 = .ok (.getfield 19, 3) := by decide +kernel
theorem dX3_readText_46 : decode cX3_readText 46 = .ok (.iconst 2, 1) := by decide +kernel
theorem dX3_readText_47 : decode cX3_readText 47 = .ok (.if_icmp .eq 10, 3) := by decide +kernel
theorem dX3_readText_50 : decode cX3_readText 50 = .ok (.iconst (-1), 1) := by decide +kernel
theorem dX3_readText_51 : decode cX3_readText 51 = .ok (.aload_n 0, 1) := by decide +kernel
theorem dX3_readText_52 : decode cX3_readText 52 = .ok (.getfield 22, 3) := by decide +kernel
theorem dX3_readText_55 : decode cX3_readText 55 = .ok (.isub, 1) := by decide +kernel
theorem dX3_readText_56 : decode cX3_readText 56 = .ok (.ireturn, 1) := by decide +kernel
theorem dX3_readText_57 : decode cX3_readText 57 = .ok (.aload_n 0, 1) := by decide +kernel
theorem dX3_readText_58 : decode cX3_readText 58 = .ok (.invokevirtual 28, 3) := by decide +kernel
theorem dX3_readText_61 : decode cX3_readText 61 = .ok (.iinc 2 1, 3) := by decide +kernel
theorem dX3_readText_64 : decode cX3_readText 64 = .ok (.goto (-53), 3) := by decide +kernel
theorem dX3_readText_67 : decode cX3_readText 67 = .ok (.iconst (-1), 1) := by decide +kernel
theorem dX3_readText_68 : decode cX3_readText 68 = .ok (.aload_n 0, 1) := by decide +kernel
theorem dX3_readText_69 : decode cX3_readText 69 = .ok (.getfield 22, 3) := by decide +kernel
theorem dX3_readText_72 : decode cX3_readText 72 = .ok (.isub, 1) := by decide +kernel
theorem dX3_readText_73 : decode cX3_readText 73 = .ok (.ireturn, 1) := by decide +kernel
theorem dX3_readItem_0 : decode cX3_readItem 0 = .ok (.aload_n 0, 1) := by decide +kernel
theorem dX3_readItem_1 : decode cX3_readItem 1 = .ok (.invokevirtual 35, 3) := by decide +kernel
theorem dX3_readItem_4 : decode cX3_readItem 4 = .ok (.istore_n 2, 1) := by decide +kernel
theorem dX3_readItem_5 : decode cX3_readItem 5 = .ok (.iload_n 2, 1) := by decide +kernel
theorem dX3_readItem_6 : decode cX3_readItem 6 = .ok (.ifCond .lt 30, 3) := by decide +kernel
theorem dX3_readItem_9 : decode cX3_readItem 9 = .ok (.aload_n 1, 1) := by decide +kernel
theorem dX3_readItem_10 : decode cX3_readItem 10 = .ok (.getfield 39, 3) := by decide +kernel
theorem dX3_readItem_13 : decode cX3_readItem 13 = .ok (.bipush 8, 2) := by decide +kernel
theorem dX3_readItem_15 : decode cX3_readItem 15 = .ok (.if_icmp .ge 19, 3) := by decide +kernel
theorem dX3_readItem_18 : decode cX3_readItem 18 = .ok (.aload_n 0, 1) := by decide +kernel
theorem dX3_readItem_19 : decode cX3_readItem 19 = .ok (.aload_n 1, 1) := by decide +kernel
theorem dX3_readItem_20 : decode cX3_readItem 20 = .ok (.iload_n 2, 1) := by decide +kernel
theorem dX3_readItem_21 : decode cX3_readItem 21 = .ok (.invokevirtual 44, 3) := by decide +kernel
theorem dX3_readItem_24 : decode cX3_readItem 24 = .ok (.invokevirtual 48, 3) := by decide +kernel
theorem dX3_readItem_27 : decode cX3_readItem 27 = .ok (.ifCond .eq 7, 3) := by decide +kernel
theorem dX3_readItem_30 : decode cX3_readItem 30 = .ok (.iconst 1, 1) := by decide +kernel
theorem dX3_readItem_31 : decode cX3_readItem 31 = .ok (.goto 4, 3) := by decide +kernel
theorem dX3_readItem_34 : decode cX3_readItem 34 = .ok (.iconst 0, 1) := by decide +kernel
theorem dX3_readItem_35 : decode cX3_readItem 35 = .ok (.ireturn, 1) := by decide +kernel
theorem dX3_readItem_36 : decode cX3_readItem 36 = .ok (.aload_n 0, 1) := by decide +kernel
theorem dX3_readItem_37 : decode cX3_readItem 37 = .ok (.ldc 52, 2) := by decide +kernel
theorem dX3_readItem_39 : decode cX3_readItem 39 = .ok (.invokevirtual 54, 3) := by decide +kernel
theorem dX3_readItem_42 : decode cX3_readItem 42 = .ok (.ifCond .eq 9, 3) := by decide +kernel
theorem dX3_readItem_45 : decode cX3_readItem 45 = .ok (.aload_n 0, 1) := by decide +kernel
theorem dX3_readItem_46 : decode cX3_readItem 46 = .ok (.aload_n 1, 1) := by decide +kernel
theorem dX3_readItem_47 : decode cX3_readItem 47 = .ok (.invokevirtual 58, 3) := by decide +kernel
theorem dX3_readItem_50 : decode cX3_readItem 50 = .ok (.ireturn, 1) := by decide +kernel
theorem dX3_readItem_51 : decode cX3_readItem 51 = .ok (.aload_n 0, 1) := by decide +kernel
theorem dX3_readItem_52 : decode cX3_readItem 52 = .ok (.ldc 61, 2) := by decide +kernel
theorem dX3_readItem_54 : decode cX3_readItem 54 = .ok (.invokevirtual 54, 3) := by decide +kernel
theorem dX3_readItem_57 : decode cX3_readItem 57 = .ok (.ifCond .eq 26, 3) := by decide +kernel
theorem dX3_readItem_60 : decode cX3_readItem 60 = .ok (.aload_n 1, 1) := by decide +kernel
theorem dX3_readItem_61 : decode cX3_readItem 61 = .ok (.aload_n 0, 1) := by decide +kernel
theorem dX3_readItem_62 : decode cX3_readItem 62 = .ok (.bipush 99, 2) := by decide +kernel
theorem dX3_readItem_64 : decode cX3_readItem 64 = .ok (.invokevirtual 63, 3) := by decide +kernel
theorem dX3_readItem_67 : decode cX3_readItem 67 = .ok (.putfield 67, 3) := by decide +kernel
theorem dX3_readItem_70 : decode cX3_readItem 70 = .ok (.aload_n 1, 1) := by decide +kernel
theorem dX3_readItem_71 : decode cX3_readItem 71 = .ok (.getfield 67, 3) := by decide +kernel
theorem dX3_readItem_74 : decode cX3_readItem 74 = .ok (.ifCond .lt 7, 3) := by decide +kernel
theorem dX3_readItem_77 : decode cX3_readItem 77 = .ok (.iconst 1, 1) := by decide +kernel
theorem dX3_readItem_78 : decode cX3_readItem 78 = .ok (.goto 4, 3) := by decide +kernel
theorem dX3_readItem_81 : decode cX3_readItem 81 = .ok (.iconst 0, 1) := by decide +kernel
theorem dX3_readItem_82 : decode cX3_readItem 82 = .ok (.ireturn, 1) := by decide +kernel
theorem dX3_readItem_83 : decode cX3_readItem 83 = .ok (.aload_n 0, 1) := by decide +kernel
theorem dX3_readItem_84 : decode cX3_readItem 84 = .ok (.ldc 69, 2) := by decide +kernel
theorem dX3_readItem_86 : decode cX3_readItem 86 = .ok (.invokevirtual 54, 3) := by decide +kernel
theorem dX3_readItem_89 : decode cX3_readItem 89 = .ok (.ifCond .eq 26, 3) := by decide +kernel
theorem dX3_readItem_92 : decode cX3_readItem 92 = .ok (.aload_n 1, 1) := by decide +kernel
theorem dX3_readItem_93 : decode cX3_readItem 93 = .ok (.aload_n 0, 1) := by decide +kernel
theorem dX3_readItem_94 : decode cX3_readItem 94 = .ok (.bipush 9, 2) := by decide +kernel
theorem dX3_readItem_96 : decode cX3_readItem 96 = .ok (.invokevirtual 63, 3) := by decide +kernel
theorem dX3_readItem_99 : decode cX3_readItem 99 = .ok (.putfield 71, 3) := by decide +kernel
theorem dX3_readItem_102 : decode cX3_readItem 102 = .ok (.aload_n 1, 1) := by decide +kernel
theorem dX3_readItem_103 : decode cX3_readItem 103 = .ok (.getfield 71, 3) := by decide +kernel
theorem dX3_readItem_106 : decode cX3_readItem 106 = .ok (.ifCond .lt 7, 3) := by decide +kernel
theorem dX3_readItem_109 : decode cX3_readItem 109 = .ok (.iconst 1, 1) := by decide +kernel
theorem dX3_readItem_110 : decode cX3_readItem 110 = .ok (.goto 4, 3) := by decide +kernel
theorem dX3_readItem_113 : decode cX3_readItem 113 = .ok (.iconst 0, 1) := by decide +kernel
theorem dX3_readItem_114 : decode cX3_readItem 114 = .ok (.ireturn, 1) := by decide +kernel
theorem dX3_readItem_115 : decode cX3_readItem 115 = .ok (.iconst 0, 1) := by decide +kernel
theorem dX3_readItem_116 : decode cX3_readItem 116 = .ok (.ireturn, 1) := by decide +kernel
theorem dX3_readDish_0 : decode cX3_readDish 0 = .ok (.aload_n 0, 1) := by decide +kernel
theorem dX3_readDish_1 : decode cX3_readDish 1 = .ok (.invokevirtual 28, 3) := by decide +kernel
theorem dX3_readDish_4 : decode cX3_readDish 4 = .ok (.aload_n 0, 1) := by decide +kernel
theorem dX3_readDish_5 : decode cX3_readDish 5 = .ok (.ldc 73, 2) := by decide +kernel
theorem dX3_readDish_7 : decode cX3_readDish 7 = .ok (.invokevirtual 54, 3) := by decide +kernel
theorem dX3_readDish_10 : decode cX3_readDish 10 = .ok (.ifCond .eq 22, 3) := by decide +kernel
theorem dX3_readDish_13 : decode cX3_readDish 13 = .ok (.aload_n 1, 1) := by decide +kernel
theorem dX3_readDish_14 : decode cX3_readDish 14 = .ok (.aload_n 0, 1) := by decide +kernel
theorem dX3_readDish_15 : decode cX3_readDish 15 = .ok (.bipush 99, 2) := by decide +kernel
theorem dX3_readDish_17 : decode cX3_readDish 17 = .ok (.invokevirtual 63, 3) := by decide +kernel
theorem dX3_readDish_20 : decode cX3_readDish 20 = .ok (.putfield 75, 3) := by decide +kernel
theorem dX3_readDish_23 : decode cX3_readDish 23 = .ok (.aload_n 1, 1) := by decide +kernel
theorem dX3_readDish_24 : decode cX3_readDish 24 = .ok (.getfield 75, 3) := by decide +kernel
theorem dX3_readDish_27 : decode cX3_readDish 27 = .ok (.ifCond .ge 5, 3) := by decide +kernel
theorem dX3_readDish_30 : decode cX3_readDish 30 = .ok (.iconst 0, 1) := by decide +kernel
theorem dX3_readDish_31 : decode cX3_readDish 31 = .ok (.ireturn, 1) := by decide +kernel
theorem dX3_readDish_32 : decode cX3_readDish 32 = .ok (.aload_n 0, 1) := by decide +kernel
theorem dX3_readDish_33 : decode cX3_readDish 33 = .ok (.ldc 79, 2) := by decide +kernel
theorem dX3_readDish_35 : decode cX3_readDish 35 = .ok (.invokevirtual 54, 3) := by decide +kernel
theorem dX3_readDish_38 : decode cX3_readDish 38 = .ok (.ifCond .eq 22, 3) := by decide +kernel
theorem dX3_readDish_41 : decode cX3_readDish 41 = .ok (.aload_n 1, 1) := by decide +kernel
theorem dX3_readDish_42 : decode cX3_readDish 42 = .ok (.aload_n 0, 1) := by decide +kernel
theorem dX3_readDish_43 : decode cX3_readDish 43 = .ok (.bipush 99, 2) := by decide +kernel
theorem dX3_readDish_45 : decode cX3_readDish 45 = .ok (.invokevirtual 63, 3) := by decide +kernel
theorem dX3_readDish_48 : decode cX3_readDish 48 = .ok (.putfield 81, 3) := by decide +kernel
theorem dX3_readDish_51 : decode cX3_readDish 51 = .ok (.aload_n 1, 1) := by decide +kernel
theorem dX3_readDish_52 : decode cX3_readDish 52 = .ok (.getfield 81, 3) := by decide +kernel
theorem dX3_readDish_55 : decode cX3_readDish 55 = .ok (.ifCond .ge 5, 3) := by decide +kernel
theorem dX3_readDish_58 : decode cX3_readDish 58 = .ok (.iconst 0, 1) := by decide +kernel
theorem dX3_readDish_59 : decode cX3_readDish 59 = .ok (.ireturn, 1) := by decide +kernel
theorem dX3_readDish_60 : decode cX3_readDish 60 = .ok (.aload_n 1, 1) := by decide +kernel
theorem dX3_readDish_61 : decode cX3_readDish 61 = .ok (.aload_n 0, 1) := by decide +kernel
theorem dX3_readDish_62 : decode cX3_readDish 62 = .ok (.ldc 83, 2) := by decide +kernel
theorem dX3_readDish_64 : decode cX3_readDish 64 = .ok (.invokevirtual 54, 3) := by decide +kernel
theorem dX3_readDish_67 : decode cX3_readDish 67 = .ok (.ifCond .eq 7, 3) := by decide +kernel
theorem dX3_readDish_70 : decode cX3_readDish 70 = .ok (.iconst 1, 1) := by decide +kernel
theorem dX3_readDish_71 : decode cX3_readDish 71 = .ok (.goto 4, 3) := by decide +kernel
theorem dX3_readDish_74 : decode cX3_readDish 74 = .ok (.iconst 0, 1) := by decide +kernel
theorem dX3_readDish_75 : decode cX3_readDish 75 = .ok (.putfield 85, 3) := by decide +kernel
theorem dX3_readDish_78 : decode cX3_readDish 78 = .ok (.aload_n 1, 1) := by decide +kernel
theorem dX3_readDish_79 : decode cX3_readDish 79 = .ok (.aload_n 0, 1) := by decide +kernel
theorem dX3_readDish_80 : decode cX3_readDish 80 = .ok (.ldc 87, 2) := by decide +kernel
theorem dX3_readDish_82 : decode cX3_readDish 82 = .ok (.invokevirtual 54, 3) := by decide +kernel
theorem dX3_readDish_85 : decode cX3_readDish 85 = .ok (.ifCond .eq 7, 3) := by decide +kernel
theorem dX3_readDish_88 : decode cX3_readDish 88 = .ok (.iconst 1, 1) := by decide +kernel
theorem dX3_readDish_89 : decode cX3_readDish 89 = .ok (.goto 4, 3) := by decide +kernel
theorem dX3_readDish_92 : decode cX3_readDish 92 = .ok (.iconst 0, 1) := by decide +kernel
theorem dX3_readDish_93 : decode cX3_readDish 93 = .ok (.putfield 89, 3) := by decide +kernel
theorem dX3_readDish_96 : decode cX3_readDish 96 = .ok (.iconst 1, 1) := by decide +kernel
theorem dX3_readDish_97 : decode cX3_readDish 97 = .ok (.ireturn, 1) := by decide +kernel
theorem dX3_readDeed_0 : decode cX3_readDeed 0 = .ok (.aload_n 0, 1) := by decide +kernel
theorem dX3_readDeed_1 : decode cX3_readDeed 1 = .ok (.iconst 5, 1) := by decide +kernel
theorem dX3_readDeed_2 : decode cX3_readDeed 2 = .ok (.invokevirtual 63, 3) := by decide +kernel
theorem dX3_readDeed_5 : decode cX3_readDeed 5 = .ok (.istore_n 2, 1) := by decide +kernel
theorem dX3_readDeed_6 : decode cX3_readDeed 6 = .ok (.iload_n 2, 1) := by decide +kernel
theorem dX3_readDeed_7 : decode cX3_readDeed 7 = .ok (.ifCond .ge 5, 3) := by decide +kernel
theorem dX3_readDeed_10 : decode cX3_readDeed 10 = .ok (.iconst 0, 1) := by decide +kernel
theorem dX3_readDeed_11 : decode cX3_readDeed 11 = .ok (.ireturn, 1) := by decide +kernel
theorem dX3_readDeed_12 : decode cX3_readDeed 12 = .ok (.aload_n 0, 1) := by decide +kernel
theorem dX3_readDeed_13 : decode cX3_readDeed 13 = .ok (.bipush 11, 2) := by decide +kernel
theorem dX3_readDeed_15 : decode cX3_readDeed 15 = .ok (.invokevirtual 63, 3) := by decide +kernel
theorem dX3_readDeed_18 : decode cX3_readDeed 18 = .ok (.istore_n 3, 1) := by decide +kernel
theorem dX3_readDeed_19 : decode cX3_readDeed 19 = .ok (.iload_n 3, 1) := by decide +kernel
theorem dX3_readDeed_20 : decode cX3_readDeed 20 = .ok (.ifCond .ge 5, 3) := by decide +kernel
theorem dX3_readDeed_23 : decode cX3_readDeed 23 = .ok (.iconst 0, 1) := by decide +kernel
theorem dX3_readDeed_24 : decode cX3_readDeed 24 = .ok (.ireturn, 1) := by decide +kernel
theorem dX3_readDeed_25 : decode cX3_readDeed 25 = .ok (.aload_n 1, 1) := by decide +kernel
theorem dX3_readDeed_26 : decode cX3_readDeed 26 = .ok (.getfield 91, 3) := by decide +kernel
theorem dX3_readDeed_29 : decode cX3_readDeed 29 = .ok (.iload_n 2, 1) := by decide +kernel
theorem dX3_readDeed_30 : decode cX3_readDeed 30 = .ok (.iload_n 3, 1) := by decide +kernel
theorem dX3_readDeed_31 : decode cX3_readDeed 31 = .ok (.iastore, 1) := by decide +kernel
theorem dX3_readDeed_32 : decode cX3_readDeed 32 = .ok (.iconst 1, 1) := by decide +kernel
theorem dX3_readDeed_33 : decode cX3_readDeed 33 = .ok (.ireturn, 1) := by decide +kernel
theorem dX3_readNumber_0 : decode cX3_readNumber 0 = .ok (.aload_n 0, 1) := by decide +kernel
theorem dX3_readNumber_1 : decode cX3_readNumber 1 = .ok (.getfield 19, 3) := by decide +kernel
theorem dX3_readNumber_4 : decode cX3_readNumber 4 = .ok (.iconst 1, 1) := by decide +kernel
theorem dX3_readNumber_5 : decode cX3_readNumber 5 = .ok (.if_icmp .eq 5, 3) := by decide +kernel
theorem dX3_readNumber_8 : decode cX3_readNumber 8 = .ok (.iconst (-1), 1) := by decide +kernel
theorem dX3_readNumber_9 : decode cX3_readNumber 9 = .ok (.ireturn, 1) := by decide +kernel
theorem dX3_readNumber_10 : decode cX3_readNumber 10 = .ok (.aload_n 0, 1) := by decide +kernel
theorem dX3_readNumber_11 : decode cX3_readNumber 11 = .ok (.invokevirtual 95, 3) := by decide +kernel
theorem dX3_readNumber_14 : decode cX3_readNumber 14 = .ok (.istore_n 2, 1) := by decide +kernel
theorem dX3_readNumber_15 : decode cX3_readNumber 15 = .ok (.iload_n 2, 1) := by decide +kernel
theorem dX3_readNumber_16 : decode cX3_readNumber 16 = .ok (.iload_n 1, 1) := by decide +kernel
theorem dX3_readNumber_17 : decode cX3_readNumber 17 = .ok (.if_icmp .le 5, 3) := by decide +kernel
theorem dX3_readNumber_20 : decode cX3_readNumber 20 = .ok (.iconst (-1), 1) := by decide +kernel
theorem dX3_readNumber_21 : decode cX3_readNumber 21 = .ok (.ireturn, 1) := by decide +kernel
theorem dX3_readNumber_22 : decode cX3_readNumber 22 = .ok (.aload_n 0, 1) := by decide +kernel
theorem dX3_readNumber_23 : decode cX3_readNumber 23 = .ok (.invokevirtual 28, 3) := by decide +kernel
theorem dX3_readNumber_26 : decode cX3_readNumber 26 = .ok (.iload_n 2, 1) := by decide +kernel
theorem dX3_readNumber_27 : decode cX3_readNumber 27 = .ok (.ireturn, 1) := by decide +kernel
theorem dX3_skipWord_0 : decode cX3_skipWord 0 = .ok (.aload_n 0, 1) := by decide +kernel
theorem dX3_skipWord_1 : decode cX3_skipWord 1 = .ok (.aload_n 1, 1) := by decide +kernel
theorem dX3_skipWord_2 : decode cX3_skipWord 2 = .ok (.invokevirtual 98, 3) := by decide +kernel
theorem dX3_skipWord_5 : decode cX3_skipWord 5 = .ok (.ifCond .ne 5, 3) := by decide +kernel
theorem dX3_skipWord_8 : decode cX3_skipWord 8 = .ok (.iconst 0, 1) := by decide +kernel
theorem dX3_skipWord_9 : decode cX3_skipWord 9 = .ok (.ireturn, 1) := by decide +kernel
theorem dX3_skipWord_10 : decode cX3_skipWord 10 = .ok (.aload_n 0, 1) := by decide +kernel
theorem dX3_skipWord_11 : decode cX3_skipWord 11 = .ok (.invokevirtual 28, 3) := by decide +kernel
theorem dX3_skipWord_14 : decode cX3_skipWord 14 = .ok (.iconst 1, 1) := by decide +kernel
theorem dX3_skipWord_15 : decode cX3_skipWord 15 = .ok (.ireturn, 1) := by decide +kernel
theorem dX3_kindNamed_0 : decode cX3_kindNamed 0 = .ok (.aload_n 0, 1) := by decide +kernel
theorem dX3_kindNamed_1 : decode cX3_kindNamed 1 = .ok (.ldc 101, 2) := by decide +kernel
theorem dX3_kindNamed_3 : decode cX3_kindNamed 3 = .ok (.invokevirtual 98, 3) := by decide +kernel
theorem dX3_kindNamed_6 : decode cX3_kindNamed 6 = .ok (.ifCond .eq 5, 3) := by decide +kernel
theorem dX3_kindNamed_9 : decode cX3_kindNamed 9 = .ok (.iconst 0, 1) := by decide +kernel
theorem dX3_kindNamed_10 : decode cX3_kindNamed 10 = .ok (.ireturn, 1) := by decide +kernel
theorem dX3_kindNamed_11 : decode cX3_kindNamed 11 = .ok (.aload_n 0, 1) := by decide +kernel
theorem dX3_kindNamed_12 : decode cX3_kindNamed 12 = .ok (.ldc 103, 2) := by decide +kernel
theorem dX3_kindNamed_14 : decode cX3_kindNamed 14 = .ok (.invokevirtual 98, 3) := by decide +kernel
theorem dX3_kindNamed_17 : decode cX3_kindNamed 17 = .ok (.ifCond .eq 5, 3) := by decide +kernel
theorem dX3_kindNamed_20 : decode cX3_kindNamed 20 = .ok (.iconst 1, 1) := by decide +kernel
theorem dX3_kindNamed_21 : decode cX3_kindNamed 21 = .ok (.ireturn, 1) := by decide +kernel
theorem dX3_kindNamed_22 : decode cX3_kindNamed 22 = .ok (.aload_n 0, 1) := by decide +kernel
theorem dX3_kindNamed_23 : decode cX3_kindNamed 23 = .ok (.ldc 105, 2) := by decide +kernel
theorem dX3_kindNamed_25 : decode cX3_kindNamed 25 = .ok (.invokevirtual 98, 3) := by decide +kernel
theorem dX3_kindNamed_28 : decode cX3_kindNamed 28 = .ok (.ifCond .eq 5, 3) := by decide +kernel
theorem dX3_kindNamed_31 : decode cX3_kindNamed 31 = .ok (.iconst 2, 1) := by decide +kernel
theorem dX3_kindNamed_32 : decode cX3_kindNamed 32 = .ok (.ireturn, 1) := by decide +kernel
theorem dX3_kindNamed_33 : decode cX3_kindNamed 33 = .ok (.aload_n 0, 1) := by decide +kernel
theorem dX3_kindNamed_34 : decode cX3_kindNamed 34 = .ok (.ldc 107, 2) := by decide +kernel
theorem dX3_kindNamed_36 : decode cX3_kindNamed 36 = .ok (.invokevirtual 98, 3) := by decide +kernel
theorem dX3_kindNamed_39 : decode cX3_kindNamed 39 = .ok (.ifCond .eq 5, 3) := by decide +kernel
theorem dX3_kindNamed_42 : decode cX3_kindNamed 42 = .ok (.iconst 3, 1) := by decide +kernel
theorem dX3_kindNamed_43 : decode cX3_kindNamed 43 = .ok (.ireturn, 1) := by decide +kernel
theorem dX3_kindNamed_44 : decode cX3_kindNamed 44 = .ok (.aload_n 0, 1) := by decide +kernel
theorem dX3_kindNamed_45 : decode cX3_kindNamed 45 = .ok (.ldc 109, 2) := by decide +kernel
theorem dX3_kindNamed_47 : decode cX3_kindNamed 47 = .ok (.invokevirtual 98, 3) := by decide +kernel
theorem dX3_kindNamed_50 : decode cX3_kindNamed 50 = .ok (.ifCond .eq 5, 3) := by decide +kernel
theorem dX3_kindNamed_53 : decode cX3_kindNamed 53 = .ok (.iconst 4, 1) := by decide +kernel
theorem dX3_kindNamed_54 : decode cX3_kindNamed 54 = .ok (.ireturn, 1) := by decide +kernel
theorem dX3_kindNamed_55 : decode cX3_kindNamed 55 = .ok (.aload_n 0, 1) := by decide +kernel
theorem dX3_kindNamed_56 : decode cX3_kindNamed 56 = .ok (.ldc 111, 2) := by decide +kernel
theorem dX3_kindNamed_58 : decode cX3_kindNamed 58 = .ok (.invokevirtual 98, 3) := by decide +kernel
theorem dX3_kindNamed_61 : decode cX3_kindNamed 61 = .ok (.ifCond .eq 5, 3) := by decide +kernel
theorem dX3_kindNamed_64 : decode cX3_kindNamed 64 = .ok (.iconst 5, 1) := by decide +kernel
theorem dX3_kindNamed_65 : decode cX3_kindNamed 65 = .ok (.ireturn, 1) := by decide +kernel
theorem dX3_kindNamed_66 : decode cX3_kindNamed 66 = .ok (.aload_n 0, 1) := by decide +kernel
theorem dX3_kindNamed_67 : decode cX3_kindNamed 67 = .ok (.ldc 113, 2) := by decide +kernel
theorem dX3_kindNamed_69 : decode cX3_kindNamed 69 = .ok (.invokevirtual 98, 3) := by decide +kernel
theorem dX3_kindNamed_72 : decode cX3_kindNamed 72 = .ok (.ifCond .eq 8, 3) := by decide +kernel
theorem dX3_kindNamed_75 : decode cX3_kindNamed 75 = .ok (.bipush 6, 2) := by decide +kernel
theorem dX3_kindNamed_77 : decode cX3_kindNamed 77 = .ok (.goto 4, 3) := by decide +kernel
theorem dX3_kindNamed_80 : decode cX3_kindNamed 80 = .ok (.iconst (-1), 1) := by decide +kernel
theorem dX3_kindNamed_81 : decode cX3_kindNamed 81 = .ok (.ireturn, 1) := by decide +kernel
theorem dX3_isWord_0 : decode cX3_isWord 0 = .ok (.aload_n 0, 1) := by decide +kernel
theorem dX3_isWord_1 : decode cX3_isWord 1 = .ok (.getfield 19, 3) := by decide +kernel
theorem dX3_isWord_4 : decode cX3_isWord 4 = .ok (.ifCond .ne 19, 3) := by decide +kernel
theorem dX3_isWord_7 : decode cX3_isWord 7 = .ok (.aload_n 0, 1) := by decide +kernel
theorem dX3_isWord_8 : decode cX3_isWord 8 = .ok (.getfield 25, 3) := by decide +kernel
theorem dX3_isWord_11 : decode cX3_isWord 11 = .ok (.aload_n 0, 1) := by decide +kernel
theorem dX3_isWord_12 : decode cX3_isWord 12 = .ok (.getfield 22, 3) := by decide +kernel
theorem dX3_isWord_15 : decode cX3_isWord 15 = .ok (.isub, 1) := by decide +kernel
theorem dX3_isWord_16 : decode cX3_isWord 16 = .ok (.aload_n 1, 1) := by decide +kernel
theorem dX3_isWord_17 : decode cX3_isWord 17 = .ok (.invokevirtual 115, 3) := by decide +kernel
theorem dX3_isWord_20 : decode cX3_isWord 20 = .ok (.if_icmp .eq 5, 3) := by decide +kernel
theorem dX3_isWord_23 : decode cX3_isWord 23 = .ok (.iconst 0, 1) := by decide +kernel
theorem dX3_isWord_24 : decode cX3_isWord 24 = .ok (.ireturn, 1) := by decide +kernel
theorem dX3_isWord_25 : decode cX3_isWord 25 = .ok (.iconst 0, 1) := by decide +kernel
theorem dX3_isWord_26 : decode cX3_isWord 26 = .ok (.istore_n 2, 1) := by decide +kernel
theorem dX3_isWord_27 : decode cX3_isWord 27 = .ok (.iload_n 2, 1) := by decide +kernel
theorem dX3_isWord_28 : decode cX3_isWord 28 = .ok (.aload_n 1, 1) := by decide +kernel
theorem dX3_isWord_29 : decode cX3_isWord 29 = .ok (.invokevirtual 115, 3) := by decide +kernel
theorem dX3_isWord_32 : decode cX3_isWord 32 = .ok (.if_icmp .ge 30, 3) := by decide +kernel
theorem dX3_isWord_35 : decode cX3_isWord 35 = .ok (.aload_n 0, 1) := by decide +kernel
theorem dX3_isWord_36 : decode cX3_isWord 36 = .ok (.getfield 9, 3) := by decide +kernel
theorem dX3_isWord_39 : decode cX3_isWord 39 = .ok (.aload_n 0, 1) := by decide +kernel
theorem dX3_isWord_40 : decode cX3_isWord 40 = .ok (.getfield 22, 3) := by decide +kernel
theorem dX3_isWord_43 : decode cX3_isWord 43 = .ok (.iload_n 2, 1) := by decide +kernel
theorem dX3_isWord_44 : decode cX3_isWord 44 = .ok (.iadd, 1) := by decide +kernel
theorem dX3_isWord_45 : decode cX3_isWord 45 = .ok (.baload, 1) := by decide +kernel
theorem dX3_isWord_46 : decode cX3_isWord 46 = .ok (.aload_n 1, 1) := by decide +kernel
theorem dX3_isWord_47 : decode cX3_isWord 47 = .ok (.iload_n 2, 1) := by decide +kernel
theorem dX3_isWord_48 : decode cX3_isWord 48 = .ok (.invokevirtual 119, 3) := by decide +kernel
theorem dX3_isWord_51 : decode cX3_isWord 51 = .ok (.if_icmp .eq 5, 3) := by decide +kernel
theorem dX3_isWord_54 : decode cX3_isWord 54 = .ok (.iconst 0, 1) := by decide +kernel
theorem dX3_isWord_55 : decode cX3_isWord 55 = .ok (.ireturn, 1) := by decide +kernel
theorem dX3_isWord_56 : decode cX3_isWord 56 = .ok (.iinc 2 1, 3) := by decide +kernel
theorem dX3_isWord_59 : decode cX3_isWord 59 = .ok (.goto (-32), 3) := by decide +kernel
theorem dX3_isWord_62 : decode cX3_isWord 62 = .ok (.iconst 1, 1) := by decide +kernel
theorem dX3_isWord_63 : decode cX3_isWord 63 = .ok (.ireturn, 1) := by decide +kernel
theorem dX3_nextToken_0 : decode cX3_nextToken 0 = .ok (.aload_n 0, 1) := by decide +kernel
theorem dX3_nextToken_1 : decode cX3_nextToken 1 = .ok (.aload_n 0, 1) := by decide +kernel
theorem dX3_nextToken_2 : decode cX3_nextToken 2 = .ok (.getfield 25, 3) := by decide +kernel
theorem dX3_nextToken_5 : decode cX3_nextToken 5 = .ok (.putfield 22, 3) := by decide +kernel
theorem dX3_nextToken_8 : decode cX3_nextToken 8 = .ok (.aload_n 0, 1) := by decide +kernel
theorem dX3_nextToken_9 : decode cX3_nextToken 9 = .ok (.getfield 22, 3) := by decide +kernel
theorem dX3_nextToken_12 : decode cX3_nextToken 12 = .ok (.aload_n 0, 1) := by decide +kernel
theorem dX3_nextToken_13 : decode cX3_nextToken 13 = .ok (.getfield 15, 3) := by decide +kernel
theorem dX3_nextToken_16 : decode cX3_nextToken 16 = .ok (.if_icmp .ge 30, 3) := by decide +kernel
theorem dX3_nextToken_19 : decode cX3_nextToken 19 = .ok (.aload_n 0, 1) := by decide +kernel
theorem dX3_nextToken_20 : decode cX3_nextToken 20 = .ok (.getfield 9, 3) := by decide +kernel
theorem dX3_nextToken_23 : decode cX3_nextToken 23 = .ok (.aload_n 0, 1) := by decide +kernel
theorem dX3_nextToken_24 : decode cX3_nextToken 24 = .ok (.getfield 22, 3) := by decide +kernel
theorem dX3_nextToken_27 : decode cX3_nextToken 27 = .ok (.baload, 1) := by decide +kernel
theorem dX3_nextToken_28 : decode cX3_nextToken 28 = .ok (.bipush 32, 2) := by decide +kernel
theorem dX3_nextToken_30 : decode cX3_nextToken 30 = .ok (.if_icmp .ne 16, 3) := by decide +kernel
theorem dX3_nextToken_33 : decode cX3_nextToken 33 = .ok (.aload_n 0, 1) := by decide +kernel
theorem dX3_nextToken_34 : decode cX3_nextToken 34 = .ok (.dup, 1) := by decide +kernel
theorem dX3_nextToken_35 : decode cX3_nextToken 35 = .ok (.getfield 22, 3) := by decide +kernel
theorem dX3_nextToken_38 : decode cX3_nextToken 38 = .ok (.iconst 1, 1) := by decide +kernel
theorem dX3_nextToken_39 : decode cX3_nextToken 39 = .ok (.iadd, 1) := by decide +kernel
theorem dX3_nextToken_40 : decode cX3_nextToken 40 = .ok (.putfield 22, 3) := by decide +kernel
theorem dX3_nextToken_43 : decode cX3_nextToken 43 = .ok (.goto (-35), 3) := by decide +kernel
theorem dX3_nextToken_46 : decode cX3_nextToken 46 = .ok (.aload_n 0, 1) := by decide +kernel
theorem dX3_nextToken_47 : decode cX3_nextToken 47 = .ok (.getfield 22, 3) := by decide +kernel
theorem dX3_nextToken_50 : decode cX3_nextToken 50 = .ok (.aload_n 0, 1) := by decide +kernel
theorem dX3_nextToken_51 : decode cX3_nextToken 51 = .ok (.getfield 15, 3) := by decide +kernel
theorem dX3_nextToken_54 : decode cX3_nextToken 54 = .ok (.if_icmp .lt 17, 3) := by decide +kernel
theorem dX3_nextToken_57 : decode cX3_nextToken 57 = .ok (.aload_n 0, 1) := by decide +kernel
theorem dX3_nextToken_58 : decode cX3_nextToken 58 = .ok (.iconst 3, 1) := by decide +kernel
theorem dX3_nextToken_59 : decode cX3_nextToken 59 = .ok (.putfield 19, 3) := by decide +kernel
theorem dX3_nextToken_62 : decode cX3_nextToken 62 = .ok (.aload_n 0, 1) := by decide +kernel
theorem dX3_nextToken_63 : decode cX3_nextToken 63 = .ok (.aload_n 0, 1) := by decide +kernel
theorem dX3_nextToken_64 : decode cX3_nextToken 64 = .ok (.getfield 22, 3) := by decide +kernel
theorem dX3_nextToken_67 : decode cX3_nextToken 67 = .ok (.putfield 25, 3) := by decide +kernel
theorem dX3_nextToken_70 : decode cX3_nextToken 70 = .ok (.return_, 1) := by decide +kernel
theorem dX3_nextToken_71 : decode cX3_nextToken 71 = .ok (.aload_n 0, 1) := by decide +kernel
theorem dX3_nextToken_72 : decode cX3_nextToken 72 = .ok (.aload_n 0, 1) := by decide +kernel
theorem dX3_nextToken_73 : decode cX3_nextToken 73 = .ok (.getfield 9, 3) := by decide +kernel
theorem dX3_nextToken_76 : decode cX3_nextToken 76 = .ok (.aload_n 0, 1) := by decide +kernel
theorem dX3_nextToken_77 : decode cX3_nextToken 77 = .ok (.getfield 22, 3) := by decide +kernel
theorem dX3_nextToken_80 : decode cX3_nextToken 80 = .ok (.baload, 1) := by decide +kernel
theorem dX3_nextToken_81 : decode cX3_nextToken 81 = .ok (.invokestatic 123, 3) := by decide +kernel
theorem dX3_nextToken_84 : decode cX3_nextToken 84 = .ok (.putfield 19, 3) := by decide +kernel
theorem dX3_nextToken_87 : decode cX3_nextToken 87 = .ok (.aload_n 0, 1) := by decide +kernel
theorem dX3_nextToken_88 : decode cX3_nextToken 88 = .ok (.aload_n 0, 1) := by decide +kernel
theorem dX3_nextToken_89 : decode cX3_nextToken 89 = .ok (.getfield 22, 3) := by decide +kernel
theorem dX3_nextToken_92 : decode cX3_nextToken 92 = .ok (.iconst 1, 1) := by decide +kernel
theorem dX3_nextToken_93 : decode cX3_nextToken 93 = .ok (.iadd, 1) := by decide +kernel
theorem dX3_nextToken_94 : decode cX3_nextToken 94 = .ok (.putfield 25, 3) := by decide +kernel
theorem dX3_nextToken_97 : decode cX3_nextToken 97 = .ok (.aload_n 0, 1) := by decide +kernel
theorem dX3_nextToken_98 : decode cX3_nextToken 98 = .ok (.getfield 19, 3) := by decide +kernel
theorem dX3_nextToken_101 : decode cX3_nextToken 101 = .ok (.ifCond .eq 11, 3) := by decide +kernel
theorem dX3_nextToken_104 : decode cX3_nextToken 104 = .ok (.aload_n 0, 1) := by decide +kernel
theorem dX3_nextToken_105 : decode cX3_nextToken 105 = .ok (.getfield 19, 3) := by decide +kernel
theorem dX3_nextToken_108 : decode cX3_nextToken 108 = .ok (.iconst 1, 1) := by decide +kernel
theorem dX3_nextToken_109 : decode cX3_nextToken 109 = .ok (.if_icmp .ne 7, 3) := by decide +kernel
theorem dX3_nextToken_112 : decode cX3_nextToken 112 = .ok (.iconst 1, 1) := by decide +kernel
theorem dX3_nextToken_113 : decode cX3_nextToken 113 = .ok (.goto 4, 3) := by decide +kernel
theorem dX3_nextToken_116 : decode cX3_nextToken 116 = .ok (.iconst 0, 1) := by decide +kernel
theorem dX3_nextToken_117 : decode cX3_nextToken 117 = .ok (.istore_n 1, 1) := by decide +kernel
theorem dX3_nextToken_118 : decode cX3_nextToken 118 = .ok (.iload_n 1, 1) := by decide +kernel
theorem dX3_nextToken_119 : decode cX3_nextToken 119 = .ok (.ifCond .eq 46, 3) := by decide +kernel
theorem dX3_nextToken_122 : decode cX3_nextToken 122 = .ok (.aload_n 0, 1) := by decide +kernel
theorem dX3_nextToken_123 : decode cX3_nextToken 123 = .ok (.getfield 25, 3) := by decide +kernel
theorem dX3_nextToken_126 : decode cX3_nextToken 126 = .ok (.aload_n 0, 1) := by decide +kernel
theorem dX3_nextToken_127 : decode cX3_nextToken 127 = .ok (.getfield 15, 3) := by decide +kernel
theorem dX3_nextToken_130 : decode cX3_nextToken 130 = .ok (.if_icmp .ge 35, 3) := by decide +kernel
theorem dX3_nextToken_133 : decode cX3_nextToken 133 = .ok (.aload_n 0, 1) := by decide +kernel
theorem dX3_nextToken_134 : decode cX3_nextToken 134 = .ok (.getfield 9, 3) := by decide +kernel
theorem dX3_nextToken_137 : decode cX3_nextToken 137 = .ok (.aload_n 0, 1) := by decide +kernel
theorem dX3_nextToken_138 : decode cX3_nextToken 138 = .ok (.getfield 25, 3) := by decide +kernel
theorem dX3_nextToken_141 : decode cX3_nextToken 141 = .ok (.baload, 1) := by decide +kernel
theorem dX3_nextToken_142 : decode cX3_nextToken 142 = .ok (.invokestatic 123, 3) := by decide +kernel
theorem dX3_nextToken_145 : decode cX3_nextToken 145 = .ok (.aload_n 0, 1) := by decide +kernel
theorem dX3_nextToken_146 : decode cX3_nextToken 146 = .ok (.getfield 19, 3) := by decide +kernel
theorem dX3_nextToken_149 : decode cX3_nextToken 149 = .ok (.if_icmp .ne 16, 3) := by decide +kernel
theorem dX3_nextToken_152 : decode cX3_nextToken 152 = .ok (.aload_n 0, 1) := by decide +kernel
theorem dX3_nextToken_153 : decode cX3_nextToken 153 = .ok (.dup, 1) := by decide +kernel
theorem dX3_nextToken_154 : decode cX3_nextToken 154 = .ok (.getfield 25, 3) := by decide +kernel
theorem dX3_nextToken_157 : decode cX3_nextToken 157 = .ok (.iconst 1, 1) := by decide +kernel
theorem dX3_nextToken_158 : decode cX3_nextToken 158 = .ok (.iadd, 1) := by decide +kernel
theorem dX3_nextToken_159 : decode cX3_nextToken 159 = .ok (.putfield 25, 3) := by decide +kernel
theorem dX3_nextToken_162 : decode cX3_nextToken 162 = .ok (.goto (-44), 3) := by decide +kernel
theorem dX3_nextToken_165 : decode cX3_nextToken 165 = .ok (.return_, 1) := by decide +kernel
theorem dX3_sortOf_0 : decode cX3_sortOf 0 = .ok (.iload_n 0, 1) := by decide +kernel
theorem dX3_sortOf_1 : decode cX3_sortOf 1 = .ok (.bipush 97, 2) := by decide +kernel
theorem dX3_sortOf_3 : decode cX3_sortOf 3 = .ok (.if_icmp .lt 11, 3) := by decide +kernel
theorem dX3_sortOf_6 : decode cX3_sortOf 6 = .ok (.iload_n 0, 1) := by decide +kernel
theorem dX3_sortOf_7 : decode cX3_sortOf 7 = .ok (.bipush 122, 2) := by decide +kernel
theorem dX3_sortOf_9 : decode cX3_sortOf 9 = .ok (.if_icmp .gt 5, 3) := by decide +kernel
theorem dX3_sortOf_12 : decode cX3_sortOf 12 = .ok (.iconst 0, 1) := by decide +kernel
theorem dX3_sortOf_13 : decode cX3_sortOf 13 = .ok (.ireturn, 1) := by decide +kernel
theorem dX3_sortOf_14 : decode cX3_sortOf 14 = .ok (.iload_n 0, 1) := by decide +kernel
theorem dX3_sortOf_15 : decode cX3_sortOf 15 = .ok (.bipush 48, 2) := by decide +kernel
theorem dX3_sortOf_17 : decode cX3_sortOf 17 = .ok (.if_icmp .lt 11, 3) := by decide +kernel
theorem dX3_sortOf_20 : decode cX3_sortOf 20 = .ok (.iload_n 0, 1) := by decide +kernel
theorem dX3_sortOf_21 : decode cX3_sortOf 21 = .ok (.bipush 57, 2) := by decide +kernel
theorem dX3_sortOf_23 : decode cX3_sortOf 23 = .ok (.if_icmp .gt 5, 3) := by decide +kernel
theorem dX3_sortOf_26 : decode cX3_sortOf 26 = .ok (.iconst 1, 1) := by decide +kernel
theorem dX3_sortOf_27 : decode cX3_sortOf 27 = .ok (.ireturn, 1) := by decide +kernel
theorem dX3_sortOf_28 : decode cX3_sortOf 28 = .ok (.iload_n 0, 1) := by decide +kernel
theorem dX3_sortOf_29 : decode cX3_sortOf 29 = .ok (.bipush 59, 2) := by decide +kernel
theorem dX3_sortOf_31 : decode cX3_sortOf 31 = .ok (.if_icmp .ne 7, 3) := by decide +kernel
theorem dX3_sortOf_34 : decode cX3_sortOf 34 = .ok (.iconst 2, 1) := by decide +kernel
theorem dX3_sortOf_35 : decode cX3_sortOf 35 = .ok (.goto 4, 3) := by decide +kernel
theorem dX3_sortOf_38 : decode cX3_sortOf 38 = .ok (.iconst 4, 1) := by decide +kernel
theorem dX3_sortOf_39 : decode cX3_sortOf 39 = .ok (.ireturn, 1) := by decide +kernel
theorem dX3_valueOfToken_0 : decode cX3_valueOfToken 0 = .ok (.iconst 0, 1) := by decide +kernel
theorem dX3_valueOfToken_1 : decode cX3_valueOfToken 1 = .ok (.istore_n 1, 1) := by decide +kernel
theorem dX3_valueOfToken_2 : decode cX3_valueOfToken 2 = .ok (.aload_n 0, 1) := by decide +kernel
theorem dX3_valueOfToken_3 : decode cX3_valueOfToken 3 = .ok (.getfield 22, 3) := by decide +kernel
theorem dX3_valueOfToken_6 : decode cX3_valueOfToken 6 = .ok (.istore_n 2, 1) := by decide +kernel
theorem dX3_valueOfToken_7 : decode cX3_valueOfToken 7 = .ok (.iload_n 2, 1) := by decide +kernel
theorem dX3_valueOfToken_8 : decode cX3_valueOfToken 8 = .ok (.aload_n 0, 1) := by decide +kernel
theorem dX3_valueOfToken_9 : decode cX3_valueOfToken 9 = .ok (.getfield 25, 3) := by decide +kernel
theorem dX3_valueOfToken_12 : decode cX3_valueOfToken 12 = .ok (.if_icmp .ge 30, 3) := by decide +kernel
theorem dX3_valueOfToken_15 : decode cX3_valueOfToken 15 = .ok (.sipush 1000, 3) := by decide +kernel
theorem dX3_valueOfToken_18 : decode cX3_valueOfToken 18 = .ok (.iload_n 1, 1) := by decide +kernel
theorem dX3_valueOfToken_19 : decode cX3_valueOfToken 19 = .ok (.bipush 10, 2) := by decide +kernel
theorem dX3_valueOfToken_21 : decode cX3_valueOfToken 21 = .ok (.imul, 1) := by decide +kernel
theorem dX3_valueOfToken_22 : decode cX3_valueOfToken 22 = .ok (.aload_n 0, 1) := by decide +kernel
theorem dX3_valueOfToken_23 : decode cX3_valueOfToken 23 = .ok (.getfield 9, 3) := by decide +kernel
theorem dX3_valueOfToken_26 : decode cX3_valueOfToken 26 = .ok (.iload_n 2, 1) := by decide +kernel
theorem dX3_valueOfToken_27 : decode cX3_valueOfToken 27 = .ok (.baload, 1) := by decide +kernel
theorem dX3_valueOfToken_28 : decode cX3_valueOfToken 28 = .ok (.iadd, 1) := by decide +kernel
theorem dX3_valueOfToken_29 : decode cX3_valueOfToken 29 = .ok (.bipush 48, 2) := by decide +kernel
theorem dX3_valueOfToken_31 : decode cX3_valueOfToken 31 = .ok (.isub, 1) := by decide +kernel
theorem dX3_valueOfToken_32 : decode cX3_valueOfToken 32 = .ok (.invokestatic 127, 3) := by decide +kernel
theorem dX3_valueOfToken_35 : decode cX3_valueOfToken 35 = .ok (.istore_n 1, 1) := by decide +kernel
theorem dX3_valueOfToken_36 : decode cX3_valueOfToken 36 = .ok (.iinc 2 1, 3) := by decide +kernel
theorem dX3_valueOfToken_39 : decode cX3_valueOfToken 39 = .ok (.goto (-32), 3) := by decide +kernel
theorem dX3_valueOfToken_42 : decode cX3_valueOfToken 42 = .ok (.iload_n 1, 1) := by decide +kernel
theorem dX3_valueOfToken_43 : decode cX3_valueOfToken 43 = .ok (.ireturn, 1) := by decide +kernel
theorem dJ6_bitCount_0f7a4_0 : decode cJ6_bitCount_0f7a4 0 = .ok (.iload_n 0, 1) := by decide +kernel
theorem dJ6_bitCount_0f7a4_1 : decode cJ6_bitCount_0f7a4 1 = .ok (.iload_n 0, 1) := by decide +kernel
theorem dJ6_bitCount_0f7a4_2 : decode cJ6_bitCount_0f7a4 2 = .ok (.iconst 1, 1) := by decide +kernel
theorem dJ6_bitCount_0f7a4_3 : decode cJ6_bitCount_0f7a4 3 = .ok (.iushr, 1) := by decide +kernel
theorem dJ6_bitCount_0f7a4_4 : decode cJ6_bitCount_0f7a4 4 = .ok (.ldc_w 265, 3) := by decide +kernel
theorem dJ6_bitCount_0f7a4_7 : decode cJ6_bitCount_0f7a4 7 = .ok (.iand, 1) := by decide +kernel
theorem dJ6_bitCount_0f7a4_8 : decode cJ6_bitCount_0f7a4 8 = .ok (.isub, 1) := by decide +kernel
theorem dJ6_bitCount_0f7a4_9 : decode cJ6_bitCount_0f7a4 9 = .ok (.istore_n 0, 1) := by decide +kernel
theorem dJ6_bitCount_0f7a4_10 : decode cJ6_bitCount_0f7a4 10 = .ok (.iload_n 0, 1) := by decide +kernel
theorem dJ6_bitCount_0f7a4_11 : decode cJ6_bitCount_0f7a4 11 = .ok (.ldc_w 266, 3) := by decide +kernel
theorem dJ6_bitCount_0f7a4_14 : decode cJ6_bitCount_0f7a4 14 = .ok (.iand, 1) := by decide +kernel
theorem dJ6_bitCount_0f7a4_15 : decode cJ6_bitCount_0f7a4 15 = .ok (.iload_n 0, 1) := by decide +kernel
theorem dJ6_bitCount_0f7a4_16 : decode cJ6_bitCount_0f7a4 16 = .ok (.iconst 2, 1) := by decide +kernel
theorem dJ6_bitCount_0f7a4_17 : decode cJ6_bitCount_0f7a4 17 = .ok (.iushr, 1) := by decide +kernel
theorem dJ6_bitCount_0f7a4_18 : decode cJ6_bitCount_0f7a4 18 = .ok (.ldc_w 266, 3) := by decide +kernel
theorem dJ6_bitCount_0f7a4_21 : decode cJ6_bitCount_0f7a4 21 = .ok (.iand, 1) := by decide +kernel
theorem dJ6_bitCount_0f7a4_22 : decode cJ6_bitCount_0f7a4 22 = .ok (.iadd, 1) := by decide +kernel
theorem dJ6_bitCount_0f7a4_23 : decode cJ6_bitCount_0f7a4 23 = .ok (.istore_n 0, 1) := by decide +kernel
theorem dJ6_bitCount_0f7a4_24 : decode cJ6_bitCount_0f7a4 24 = .ok (.iload_n 0, 1) := by decide +kernel
theorem dJ6_bitCount_0f7a4_25 : decode cJ6_bitCount_0f7a4 25 = .ok (.iload_n 0, 1) := by decide +kernel
theorem dJ6_bitCount_0f7a4_26 : decode cJ6_bitCount_0f7a4 26 = .ok (.iconst 4, 1) := by decide +kernel
theorem dJ6_bitCount_0f7a4_27 : decode cJ6_bitCount_0f7a4 27 = .ok (.iushr, 1) := by decide +kernel
theorem dJ6_bitCount_0f7a4_28 : decode cJ6_bitCount_0f7a4 28 = .ok (.iadd, 1) := by decide +kernel
theorem dJ6_bitCount_0f7a4_29 : decode cJ6_bitCount_0f7a4 29 = .ok (.ldc_w 267, 3) := by decide +kernel
theorem dJ6_bitCount_0f7a4_32 : decode cJ6_bitCount_0f7a4 32 = .ok (.iand, 1) := by decide +kernel
theorem dJ6_bitCount_0f7a4_33 : decode cJ6_bitCount_0f7a4 33 = .ok (.istore_n 0, 1) := by decide +kernel
theorem dJ6_bitCount_0f7a4_34 : decode cJ6_bitCount_0f7a4 34 = .ok (.iload_n 0, 1) := by decide +kernel
theorem dJ6_bitCount_0f7a4_35 : decode cJ6_bitCount_0f7a4 35 = .ok (.iload_n 0, 1) := by decide +kernel
theorem dJ6_bitCount_0f7a4_36 : decode cJ6_bitCount_0f7a4 36 = .ok (.bipush 8, 2) := by decide +kernel
theorem dJ6_bitCount_0f7a4_38 : decode cJ6_bitCount_0f7a4 38 = .ok (.iushr, 1) := by decide +kernel
theorem dJ6_bitCount_0f7a4_39 : decode cJ6_bitCount_0f7a4 39 = .ok (.iadd, 1) := by decide +kernel
theorem dJ6_bitCount_0f7a4_40 : decode cJ6_bitCount_0f7a4 40 = .ok (.istore_n 0, 1) := by decide +kernel
theorem dJ6_bitCount_0f7a4_41 : decode cJ6_bitCount_0f7a4 41 = .ok (.iload_n 0, 1) := by decide +kernel
theorem dJ6_bitCount_0f7a4_42 : decode cJ6_bitCount_0f7a4 42 = .ok (.iload_n 0, 1) := by decide +kernel
theorem dJ6_bitCount_0f7a4_43 : decode cJ6_bitCount_0f7a4 43 = .ok (.bipush 16, 2) := by decide +kernel
theorem dJ6_bitCount_0f7a4_45 : decode cJ6_bitCount_0f7a4 45 = .ok (.iushr, 1) := by decide +kernel
theorem dJ6_bitCount_0f7a4_46 : decode cJ6_bitCount_0f7a4 46 = .ok (.iadd, 1) := by decide +kernel
theorem dJ6_bitCount_0f7a4_47 : decode cJ6_bitCount_0f7a4 47 = .ok (.istore_n 0, 1) := by decide +kernel
theorem dJ6_bitCount_0f7a4_48 : decode cJ6_bitCount_0f7a4 48 = .ok (.iload_n 0, 1) := by decide +kernel
theorem dJ6_bitCount_0f7a4_49 : decode cJ6_bitCount_0f7a4 49 = .ok (.bipush 63, 2) := by decide +kernel
theorem dJ6_bitCount_0f7a4_51 : decode cJ6_bitCount_0f7a4 51 = .ok (.iand, 1) := by decide +kernel
theorem dJ6_bitCount_0f7a4_52 : decode cJ6_bitCount_0f7a4 52 = .ok (.ireturn, 1) := by decide +kernel
theorem dJ9_abs_0f7a4_0 : decode cJ9_abs_0f7a4 0 = .ok (.iload_n 0, 1) := by decide +kernel
theorem dJ9_abs_0f7a4_1 : decode cJ9_abs_0f7a4 1 = .ok (.ifCond .ge 8, 3) := by decide +kernel
theorem dJ9_abs_0f7a4_4 : decode cJ9_abs_0f7a4 4 = .ok (.iload_n 0, 1) := by decide +kernel
theorem dJ9_abs_0f7a4_5 : decode cJ9_abs_0f7a4 5 = .ok (.ineg, 1) := by decide +kernel
theorem dJ9_abs_0f7a4_6 : decode cJ9_abs_0f7a4 6 = .ok (.goto 4, 3) := by decide +kernel
theorem dJ9_abs_0f7a4_9 : decode cJ9_abs_0f7a4 9 = .ok (.iload_n 0, 1) := by decide +kernel
theorem dJ9_abs_0f7a4_10 : decode cJ9_abs_0f7a4 10 = .ok (.ireturn, 1) := by decide +kernel
theorem dJ9_max_7cf53_0 : decode cJ9_max_7cf53 0 = .ok (.iload_n 0, 1) := by decide +kernel
theorem dJ9_max_7cf53_1 : decode cJ9_max_7cf53 1 = .ok (.iload_n 1, 1) := by decide +kernel
theorem dJ9_max_7cf53_2 : decode cJ9_max_7cf53 2 = .ok (.if_icmp .lt 7, 3) := by decide +kernel
theorem dJ9_max_7cf53_5 : decode cJ9_max_7cf53 5 = .ok (.iload_n 0, 1) := by decide +kernel
theorem dJ9_max_7cf53_6 : decode cJ9_max_7cf53 6 = .ok (.goto 4, 3) := by decide +kernel
theorem dJ9_max_7cf53_9 : decode cJ9_max_7cf53 9 = .ok (.iload_n 1, 1) := by decide +kernel
theorem dJ9_max_7cf53_10 : decode cJ9_max_7cf53 10 = .ok (.ireturn, 1) := by decide +kernel
theorem dJ9_min_7cf53_0 : decode cJ9_min_7cf53 0 = .ok (.iload_n 0, 1) := by decide +kernel
theorem dJ9_min_7cf53_1 : decode cJ9_min_7cf53 1 = .ok (.iload_n 1, 1) := by decide +kernel
theorem dJ9_min_7cf53_2 : decode cJ9_min_7cf53 2 = .ok (.if_icmp .gt 7, 3) := by decide +kernel
theorem dJ9_min_7cf53_5 : decode cJ9_min_7cf53 5 = .ok (.iload_n 0, 1) := by decide +kernel
theorem dJ9_min_7cf53_6 : decode cJ9_min_7cf53 6 = .ok (.goto 4, 3) := by decide +kernel
theorem dJ9_min_7cf53_9 : decode cJ9_min_7cf53 9 = .ok (.iload_n 1, 1) := by decide +kernel
theorem dJ9_min_7cf53_10 : decode cJ9_min_7cf53 10 = .ok (.ireturn, 1) := by decide +kernel
theorem dJ0_length_8abf5_0 : decode cJ0_length_8abf5 0 = .ok (.aload_n 0, 1) := by decide +kernel
theorem dJ0_length_8abf5_1 : decode cJ0_length_8abf5 1 = .ok (.getfield 9, 3) := by decide +kernel
theorem dJ0_length_8abf5_4 : decode cJ0_length_8abf5 4 = .ok (.arraylength, 1) := by decide +kernel
theorem dJ0_length_8abf5_5 : decode cJ0_length_8abf5 5 = .ok (.aload_n 0, 1) := by decide +kernel
theorem dJ0_length_8abf5_6 : decode cJ0_length_8abf5 6 = .ok (.invokevirtual 335, 3) := by decide +kernel
theorem dJ0_length_8abf5_9 : decode cJ0_length_8abf5 9 = .ok (.ishr, 1) := by decide +kernel
theorem dJ0_length_8abf5_10 : decode cJ0_length_8abf5 10 = .ok (.ireturn, 1) := by decide +kernel
theorem dJ0_charAt_5068e_0 : decode cJ0_charAt_5068e 0 = .ok (.aload_n 0, 1) := by decide +kernel
theorem dJ0_charAt_5068e_1 : decode cJ0_charAt_5068e 1 = .ok (.invokevirtual 492, 3) := by decide +kernel
theorem dJ0_charAt_5068e_4 : decode cJ0_charAt_5068e 4 = .ok (.ifCond .eq 12, 3) := by decide +kernel
theorem dJ0_charAt_5068e_7 : decode cJ0_charAt_5068e 7 = .ok (.aload_n 0, 1) := by decide +kernel
theorem dJ0_charAt_5068e_8 : decode cJ0_charAt_5068e 8 = .ok (.getfield 9, 3) := by decide +kernel
theorem dJ0_charAt_5068e_11 : decode cJ0_charAt_5068e 11 = .ok (.iload_n 1, 1) := by decide +kernel
theorem dJ0_charAt_5068e_12 : decode cJ0_charAt_5068e 12 = .ok (.invokestatic 495, 3) := by decide +kernel
theorem dJ0_charAt_5068e_15 : decode cJ0_charAt_5068e 15 = .ok (.ireturn, 1) := by decide +kernel
theorem dJ0_charAt_5068e_16 : decode cJ0_charAt_5068e 16 = .ok (.aload_n 0, 1) := by decide +kernel
theorem dJ0_charAt_5068e_17 : decode cJ0_charAt_5068e 17 = .ok (.getfield 9, 3) := by decide +kernel
theorem dJ0_charAt_5068e_20 : decode cJ0_charAt_5068e 20 = .ok (.iload_n 1, 1) := by decide +kernel
theorem dJ0_charAt_5068e_21 : decode cJ0_charAt_5068e 21 = .ok (.invokestatic 498, 3) := by decide +kernel
theorem dJ0_charAt_5068e_24 : decode cJ0_charAt_5068e 24 = .ok (.ireturn, 1) := by decide +kernel
theorem dJ0_coder_7d493_0 : decode cJ0_coder_7d493 0 = .ok (.getstatic 38, 3) := by decide +kernel
theorem dJ0_coder_7d493_3 : decode cJ0_coder_7d493 3 = .ok (.ifCond .eq 10, 3) := by decide +kernel
theorem dJ0_coder_7d493_6 : decode cJ0_coder_7d493 6 = .ok (.aload_n 0, 1) := by decide +kernel
theorem dJ0_coder_7d493_7 : decode cJ0_coder_7d493 7 = .ok (.getfield 15, 3) := by decide +kernel
theorem dJ0_coder_7d493_10 : decode cJ0_coder_7d493 10 = .ok (.goto 4, 3) := by decide +kernel
theorem dJ0_coder_7d493_13 : decode cJ0_coder_7d493 13 = .ok (.iconst 1, 1) := by decide +kernel
theorem dJ0_coder_7d493_14 : decode cJ0_coder_7d493 14 = .ok (.ireturn, 1) := by decide +kernel
theorem dJ0_isLatin1_aae02_0 : decode cJ0_isLatin1_aae02 0 = .ok (.getstatic 38, 3) := by decide +kernel
theorem dJ0_isLatin1_aae02_3 : decode cJ0_isLatin1_aae02 3 = .ok (.ifCond .eq 14, 3) := by decide +kernel
theorem dJ0_isLatin1_aae02_6 : decode cJ0_isLatin1_aae02 6 = .ok (.aload_n 0, 1) := by decide +kernel
theorem dJ0_isLatin1_aae02_7 : decode cJ0_isLatin1_aae02 7 = .ok (.getfield 15, 3) := by decide +kernel
theorem dJ0_isLatin1_aae02_10 : decode cJ0_isLatin1_aae02 10 = .ok (.ifCond .ne 7, 3) := by decide +kernel
theorem dJ0_isLatin1_aae02_13 : decode cJ0_isLatin1_aae02 13 = .ok (.iconst 1, 1) := by decide +kernel
theorem dJ0_isLatin1_aae02_14 : decode cJ0_isLatin1_aae02 14 = .ok (.goto 4, 3) := by decide +kernel
theorem dJ0_isLatin1_aae02_17 : decode cJ0_isLatin1_aae02 17 = .ok (.iconst 0, 1) := by decide +kernel
theorem dJ0_isLatin1_aae02_18 : decode cJ0_isLatin1_aae02 18 = .ok (.ireturn, 1) := by decide +kernel
theorem dJ0_checkIndex_df160_0 : decode cJ0_checkIndex_df160 0 = .ok (.iload_n 0, 1) := by decide +kernel
theorem dJ0_checkIndex_df160_1 : decode cJ0_checkIndex_df160 1 = .ok (.iload_n 1, 1) := by decide +kernel
theorem dJ0_checkIndex_df160_2 : decode cJ0_checkIndex_df160 2 = .ok (.getstatic 1053, 3) := by decide +kernel
theorem dJ0_checkIndex_df160_5 : decode cJ0_checkIndex_df160 5 = .ok (.invokestatic 1059, 3) := by decide +kernel
theorem dJ0_checkIndex_df160_8 : decode cJ0_checkIndex_df160 8 = .ok (.pop, 1) := by decide +kernel
theorem dJ0_checkIndex_df160_9 : decode cJ0_checkIndex_df160 9 = .ok (.return_, 1) := by decide +kernel
theorem dJ1_charAt_3b067_0 : decode cJ1_charAt_3b067 0 = .ok (.iload_n 1, 1) := by decide +kernel
theorem dJ1_charAt_3b067_1 : decode cJ1_charAt_3b067 1 = .ok (.aload_n 0, 1) := by decide +kernel
theorem dJ1_charAt_3b067_2 : decode cJ1_charAt_3b067 2 = .ok (.arraylength, 1) := by decide +kernel
theorem dJ1_charAt_3b067_3 : decode cJ1_charAt_3b067 3 = .ok (.invokestatic 9, 3) := by decide +kernel
theorem dJ1_charAt_3b067_6 : decode cJ1_charAt_3b067 6 = .ok (.aload_n 0, 1) := by decide +kernel
theorem dJ1_charAt_3b067_7 : decode cJ1_charAt_3b067 7 = .ok (.iload_n 1, 1) := by decide +kernel
theorem dJ1_charAt_3b067_8 : decode cJ1_charAt_3b067 8 = .ok (.baload, 1) := by decide +kernel
theorem dJ1_charAt_3b067_9 : decode cJ1_charAt_3b067 9 = .ok (.sipush 255, 3) := by decide +kernel
theorem dJ1_charAt_3b067_12 : decode cJ1_charAt_3b067 12 = .ok (.iand, 1) := by decide +kernel
theorem dJ1_charAt_3b067_13 : decode cJ1_charAt_3b067 13 = .ok (.i2c, 1) := by decide +kernel
theorem dJ1_charAt_3b067_14 : decode cJ1_charAt_3b067 14 = .ok (.ireturn, 1) := by decide +kernel
theorem dJ2_getChar_3b067_0 : decode cJ2_getChar_3b067 0 = .ok (.getstatic 44, 3) := by decide +kernel
theorem dJ2_getChar_3b067_3 : decode cJ2_getChar_3b067 3 = .ok (.ifCond .ne 25, 3) := by decide +kernel
theorem dJ2_getChar_3b067_6 : decode cJ2_getChar_3b067 6 = .ok (.iload_n 1, 1) := by decide +kernel
theorem dJ2_getChar_3b067_7 : decode cJ2_getChar_3b067 7 = .ok (.ifCond .lt 11, 3) := by decide +kernel
theorem dJ2_getChar_3b067_10 : decode cJ2_getChar_3b067 10 = .ok (.iload_n 1, 1) := by decide +kernel
theorem dJ2_getChar_3b067_11 : decode cJ2_getChar_3b067 11 = .ok (.aload_n 0, 1) := by decide +kernel
theorem dJ2_getChar_3b067_12 : decode cJ2_getChar_3b067 12 = .ok (.invokestatic 48, 3) := by decide +kernel
theorem dJ2_getChar_3b067_15 : decode cJ2_getChar_3b067 15 = .ok (.if_icmp .lt 13, 3) := by decide +kernel
theorem dJ2_getChar_3b067_18 : decode cJ2_getChar_3b067 18 = .ok (.new 52, 3) := by decide +kernel
theorem dJ2_getChar_3b067_21 : decode cJ2_getChar_3b067 21 = .ok (.dup, 1) := by decide +kernel
theorem dJ2_getChar_3b067_22 : decode cJ2_getChar_3b067 22 = .ok (.ldc 54, 2) := by decide +kernel
theorem dJ2_getChar_3b067_24 : decode cJ2_getChar_3b067 24 = .ok (.invokespecial 56, 3) := by decide +kernel
theorem dJ2_getChar_3b067_27 : decode cJ2_getChar_3b067 27 = .ok (.athrow, 1) := by decide +kernel
theorem dJ2_getChar_3b067_28 : decode cJ2_getChar_3b067 28 = .ok (.iload_n 1, 1) := by decide +kernel
theorem dJ2_getChar_3b067_29 : decode cJ2_getChar_3b067 29 = .ok (.iconst 1, 1) := by decide +kernel
theorem dJ2_getChar_3b067_30 : decode cJ2_getChar_3b067 30 = .ok (.ishl, 1) := by decide +kernel
theorem dJ2_getChar_3b067_31 : decode cJ2_getChar_3b067 31 = .ok (.istore_n 1, 1) := by decide +kernel
theorem dJ2_getChar_3b067_32 : decode cJ2_getChar_3b067 32 = .ok (.aload_n 0, 1) := by decide +kernel
theorem dJ2_getChar_3b067_33 : decode cJ2_getChar_3b067 33 = .ok (.iload_n 1, 1) := by decide +kernel
theorem dJ2_getChar_3b067_34 : decode cJ2_getChar_3b067 34 = .ok (.iinc 1 1, 3) := by decide +kernel
theorem dJ2_getChar_3b067_37 : decode cJ2_getChar_3b067 37 = .ok (.baload, 1) := by decide +kernel
theorem dJ2_getChar_3b067_38 : decode cJ2_getChar_3b067 38 = .ok (.sipush 255, 3) := by decide +kernel
theorem dJ2_getChar_3b067_41 : decode cJ2_getChar_3b067 41 = .ok (.iand, 1) := by decide +kernel
theorem dJ2_getChar_3b067_42 : decode cJ2_getChar_3b067 42 = .ok (.getstatic 59, 3) := by decide +kernel
theorem dJ2_getChar_3b067_45 : decode cJ2_getChar_3b067 45 = .ok (.ishl, 1) := by decide +kernel
theorem dJ2_getChar_3b067_46 : decode cJ2_getChar_3b067 46 = .ok (.aload_n 0, 1) := by decide +kernel
theorem dJ2_getChar_3b067_47 : decode cJ2_getChar_3b067 47 = .ok (.iload_n 1, 1) := by decide +kernel
theorem dJ2_getChar_3b067_48 : decode cJ2_getChar_3b067 48 = .ok (.baload, 1) := by decide +kernel
theorem dJ2_getChar_3b067_49 : decode cJ2_getChar_3b067 49 = .ok (.sipush 255, 3) := by decide +kernel
theorem dJ2_getChar_3b067_52 : decode cJ2_getChar_3b067 52 = .ok (.iand, 1) := by decide +kernel
theorem dJ2_getChar_3b067_53 : decode cJ2_getChar_3b067 53 = .ok (.getstatic 63, 3) := by decide +kernel
theorem dJ2_getChar_3b067_56 : decode cJ2_getChar_3b067 56 = .ok (.ishl, 1) := by decide +kernel
theorem dJ2_getChar_3b067_57 : decode cJ2_getChar_3b067 57 = .ok (.ior, 1) := by decide +kernel
theorem dJ2_getChar_3b067_58 : decode cJ2_getChar_3b067 58 = .ok (.i2c, 1) := by decide +kernel
theorem dJ2_getChar_3b067_59 : decode cJ2_getChar_3b067 59 = .ok (.ireturn, 1) := by decide +kernel
theorem dJ2_length_9d52b_0 : decode cJ2_length_9d52b 0 = .ok (.aload_n 0, 1) := by decide +kernel
theorem dJ2_length_9d52b_1 : decode cJ2_length_9d52b 1 = .ok (.arraylength, 1) := by decide +kernel
theorem dJ2_length_9d52b_2 : decode cJ2_length_9d52b 2 = .ok (.iconst 1, 1) := by decide +kernel
theorem dJ2_length_9d52b_3 : decode cJ2_length_9d52b 3 = .ok (.ishr, 1) := by decide +kernel
theorem dJ2_length_9d52b_4 : decode cJ2_length_9d52b 4 = .ok (.ireturn, 1) := by decide +kernel
theorem dJ2_charAt_3b067_0 : decode cJ2_charAt_3b067 0 = .ok (.iload_n 1, 1) := by decide +kernel
theorem dJ2_charAt_3b067_1 : decode cJ2_charAt_3b067 1 = .ok (.aload_n 0, 1) := by decide +kernel
theorem dJ2_charAt_3b067_2 : decode cJ2_charAt_3b067 2 = .ok (.invokestatic 67, 3) := by decide +kernel
theorem dJ2_charAt_3b067_5 : decode cJ2_charAt_3b067 5 = .ok (.aload_n 0, 1) := by decide +kernel
theorem dJ2_charAt_3b067_6 : decode cJ2_charAt_3b067 6 = .ok (.iload_n 1, 1) := by decide +kernel
theorem dJ2_charAt_3b067_7 : decode cJ2_charAt_3b067 7 = .ok (.invokestatic 71, 3) := by decide +kernel
theorem dJ2_charAt_3b067_10 : decode cJ2_charAt_3b067 10 = .ok (.ireturn, 1) := by decide +kernel
theorem dJ2_checkIndex_2214a_0 : decode cJ2_checkIndex_2214a 0 = .ok (.iload_n 0, 1) := by decide +kernel
theorem dJ2_checkIndex_2214a_1 : decode cJ2_checkIndex_2214a 1 = .ok (.aload_n 1, 1) := by decide +kernel
theorem dJ2_checkIndex_2214a_2 : decode cJ2_checkIndex_2214a 2 = .ok (.invokestatic 48, 3) := by decide +kernel
theorem dJ2_checkIndex_2214a_5 : decode cJ2_checkIndex_2214a 5 = .ok (.invokestatic 414, 3) := by decide +kernel
theorem dJ2_checkIndex_2214a_8 : decode cJ2_checkIndex_2214a 8 = .ok (.return_, 1) := by decide +kernel
theorem dJ7_fill_53178_0 : decode cJ7_fill_53178 0 = .ok (.iconst 0, 1) := by decide +kernel
theorem dJ7_fill_53178_1 : decode cJ7_fill_53178 1 = .ok (.istore_n 2, 1) := by decide +kernel
theorem dJ7_fill_53178_2 : decode cJ7_fill_53178 2 = .ok (.aload_n 0, 1) := by decide +kernel
theorem dJ7_fill_53178_3 : decode cJ7_fill_53178 3 = .ok (.arraylength, 1) := by decide +kernel
theorem dJ7_fill_53178_4 : decode cJ7_fill_53178 4 = .ok (.istore_n 3, 1) := by decide +kernel
theorem dJ7_fill_53178_5 : decode cJ7_fill_53178 5 = .ok (.iload_n 2, 1) := by decide +kernel
theorem dJ7_fill_53178_6 : decode cJ7_fill_53178 6 = .ok (.iload_n 3, 1) := by decide +kernel
theorem dJ7_fill_53178_7 : decode cJ7_fill_53178 7 = .ok (.if_icmp .ge 13, 3) := by decide +kernel
theorem dJ7_fill_53178_10 : decode cJ7_fill_53178 10 = .ok (.aload_n 0, 1) := by decide +kernel
theorem dJ7_fill_53178_11 : decode cJ7_fill_53178 11 = .ok (.iload_n 2, 1) := by decide +kernel
theorem dJ7_fill_53178_12 : decode cJ7_fill_53178 12 = .ok (.iload_n 1, 1) := by decide +kernel
theorem dJ7_fill_53178_13 : decode cJ7_fill_53178 13 = .ok (.iastore, 1) := by decide +kernel
theorem dJ7_fill_53178_14 : decode cJ7_fill_53178 14 = .ok (.iinc 2 1, 3) := by decide +kernel
theorem dJ7_fill_53178_17 : decode cJ7_fill_53178 17 = .ok (.goto (-12), 3) := by decide +kernel
theorem dJ7_fill_53178_20 : decode cJ7_fill_53178 20 = .ok (.return_, 1) := by decide +kernel
theorem dJ3_checkIndex_8e157_0 : decode cJ3_checkIndex_8e157 0 = .ok (.iload_n 0, 1) := by decide +kernel
theorem dJ3_checkIndex_8e157_1 : decode cJ3_checkIndex_8e157 1 = .ok (.ifCond .lt 8, 3) := by decide +kernel
theorem dJ3_checkIndex_8e157_4 : decode cJ3_checkIndex_8e157 4 = .ok (.iload_n 0, 1) := by decide +kernel
theorem dJ3_checkIndex_8e157_5 : decode cJ3_checkIndex_8e157 5 = .ok (.iload_n 1, 1) := by decide +kernel
theorem dJ3_checkIndex_8e157_6 : decode cJ3_checkIndex_8e157 6 = .ok (.if_icmp .lt 10, 3) := by decide +kernel
theorem dJ3_checkIndex_8e157_9 : decode cJ3_checkIndex_8e157 9 = .ok (.aload_n 2, 1) := by decide +kernel
theorem dJ3_checkIndex_8e157_10 : decode cJ3_checkIndex_8e157 10 = .ok (.iload_n 0, 1) := by decide +kernel
theorem dJ3_checkIndex_8e157_11 : decode cJ3_checkIndex_8e157 11 = .ok (.iload_n 1, 1) := by decide +kernel
theorem dJ3_checkIndex_8e157_12 : decode cJ3_checkIndex_8e157 12 = .ok (.invokestatic 95, 3) := by decide +kernel
theorem dJ3_checkIndex_8e157_15 : decode cJ3_checkIndex_8e157 15 = .ok (.athrow, 1) := by decide +kernel
theorem dJ3_checkIndex_8e157_16 : decode cJ3_checkIndex_8e157 16 = .ok (.iload_n 0, 1) := by decide +kernel
theorem dJ3_checkIndex_8e157_17 : decode cJ3_checkIndex_8e157 17 = .ok (.ireturn, 1) := by decide +kernel
end
section
theorem dX4_init_0 : decode cX4_init 0 = .ok (.aload_n 0, 1) := by decide +kernel
theorem dX4_init_1 : decode cX4_init 1 = .ok (.invokespecial 1, 3) := by decide +kernel
theorem dX4_init_4 : decode cX4_init 4 = .ok (.aload_n 0, 1) := by decide +kernel
theorem dX4_init_5 : decode cX4_init 5 = .ok (.new 7, 3) := by decide +kernel
theorem dX4_init_8 : decode cX4_init 8 = .ok (.dup, 1) := by decide +kernel
theorem dX4_init_9 : decode cX4_init 9 = .ok (.invokespecial 9, 3) := by decide +kernel
theorem dX4_init_12 : decode cX4_init 12 = .ok (.putfield 10, 3) := by decide +kernel
theorem dX4_init_15 : decode cX4_init 15 = .ok (.aload_n 0, 1) := by decide +kernel
theorem dX4_init_16 : decode cX4_init 16 = .ok (.new 7, 3) := by decide +kernel
theorem dX4_init_19 : decode cX4_init 19 = .ok (.dup, 1) := by decide +kernel
theorem dX4_init_20 : decode cX4_init 20 = .ok (.invokespecial 9, 3) := by decide +kernel
theorem dX4_init_23 : decode cX4_init 23 = .ok (.putfield 16, 3) := by decide +kernel
theorem dX4_init_26 : decode cX4_init 26 = .ok (.aload_n 0, 1) := by decide +kernel
theorem dX4_init_27 : decode cX4_init 27 = .ok (.new 7, 3) := by decide +kernel
theorem dX4_init_30 : decode cX4_init 30 = .ok (.dup, 1) := by decide +kernel
theorem dX4_init_31 : decode cX4_init 31 = .ok (.invokespecial 9, 3) := by decide +kernel
theorem dX4_init_34 : decode cX4_init 34 = .ok (.putfield 19, 3) := by decide +kernel
theorem dX4_init_37 : decode cX4_init 37 = .ok (.aload_n 0, 1) := by decide +kernel
theorem dX4_init_38 : decode cX4_init 38 = .ok (.new 22, 3) := by decide +kernel
theorem dX4_init_41 : decode cX4_init 41 = .ok (.dup, 1) := by decide +kernel
theorem dX4_init_42 : decode cX4_init 42 = .ok (.invokespecial 24, 3) := by decide +kernel
theorem dX4_init_45 : decode cX4_init 45 = .ok (.putfield 25, 3) := by decide +kernel
theorem dX4_init_48 : decode cX4_init 48 = .ok (.aload_n 0, 1) := by decide +kernel
theorem dX4_init_49 : decode cX4_init 49 = .ok (.iconst 4, 1) := by decide +kernel
theorem dX4_init_50 : decode cX4_init 50 = .ok (.anewarray 29, 3) := by decide +kernel
theorem dX4_init_53 : decode cX4_init 53 = .ok (.putfield 31, 3) := by decide +kernel
theorem dX4_init_56 : decode cX4_init 56 = .ok (.aload_n 0, 1) := by decide +kernel
theorem dX4_init_57 : decode cX4_init 57 = .ok (.bipush 7, 2) := by decide +kernel
theorem dX4_init_59 : decode cX4_init 59 = .ok (.newarray .int, 2) := by decide +kernel
theorem dX4_init_61 : decode cX4_init 61 = .ok (.putfield 35, 3) := by decide +kernel
theorem dX4_init_64 : decode cX4_init 64 = .ok (.aload_n 0, 1) := by decide +kernel
theorem dX4_init_65 : decode cX4_init 65 = .ok (.iconst 0, 1) := by decide +kernel
theorem dX4_init_66 : decode cX4_init 66 = .ok (.putfield 39, 3) := by decide +kernel
theorem dX4_init_69 : decode cX4_init 69 = .ok (.iconst 0, 1) := by decide +kernel
theorem dX4_init_70 : decode cX4_init 70 = .ok (.istore_n 1, 1) := by decide +kernel
theorem dX4_init_71 : decode cX4_init 71 = .ok (.iload_n 1, 1) := by decide +kernel
theorem dX4_init_72 : decode cX4_init 72 = .ok (.iconst 4, 1) := by decide +kernel
theorem dX4_init_73 : decode cX4_init 73 = .ok (.if_icmp .ge 22, 3) := by decide +kernel
theorem dX4_init_76 : decode cX4_init 76 = .ok (.aload_n 0, 1) := by decide +kernel
theorem dX4_init_77 : decode cX4_init 77 = .ok (.getfield 31, 3) := by decide +kernel
theorem dX4_init_80 : decode cX4_init 80 = .ok (.iload_n 1, 1) := by decide +kernel
theorem dX4_init_81 : decode cX4_init 81 = .ok (.new 29, 3) := by decide +kernel
theorem dX4_init_84 : decode cX4_init 84 = .ok (.dup, 1) := by decide +kernel
theorem dX4_init_85 : decode cX4_init 85 = .ok (.invokespecial 43, 3) := by decide +kernel
theorem dX4_init_88 : decode cX4_init 88 = .ok (.aastore, 1) := by decide +kernel
theorem dX4_init_89 : decode cX4_init 89 = .ok (.iinc 1 1, 3) := by decide +kernel
theorem dX4_init_92 : decode cX4_init 92 = .ok (.goto (-21), 3) := by decide +kernel
theorem dX4_init_95 : decode cX4_init 95 = .ok (.return_, 1) := by decide +kernel
theorem dX4_set_0 : decode cX4_set 0 = .ok (.iload_n 1, 1) := by decide +kernel
theorem dX4_set_1 : decode cX4_set 1 = .ok (.ifCond .ne 31, 3) := by decide +kernel
theorem dX4_set_4 : decode cX4_set 4 = .ok (.iload_n 2, 1) := by decide +kernel
theorem dX4_set_5 : decode cX4_set 5 = .ok (.iconst 0, 1) := by decide +kernel
theorem dX4_set_6 : decode cX4_set 6 = .ok (.bipush 99, 2) := by decide +kernel
theorem dX4_set_8 : decode cX4_set 8 = .ok (.invokestatic 44, 3) := by decide +kernel
theorem dX4_set_11 : decode cX4_set 11 = .ok (.ifCond .eq 21, 3) := by decide +kernel
theorem dX4_set_14 : decode cX4_set 14 = .ok (.aload_n 0, 1) := by decide +kernel
theorem dX4_set_15 : decode cX4_set 15 = .ok (.getfield 10, 3) := by decide +kernel
theorem dX4_set_18 : decode cX4_set 18 = .ok (.getfield 48, 3) := by decide +kernel
theorem dX4_set_21 : decode cX4_set 21 = .ok (.istore_n 3, 1) := by decide +kernel
theorem dX4_set_22 : decode cX4_set 22 = .ok (.aload_n 0, 1) := by decide +kernel
theorem dX4_set_23 : decode cX4_set 23 = .ok (.getfield 10, 3) := by decide +kernel
theorem dX4_set_26 : decode cX4_set 26 = .ok (.iload_n 2, 1) := by decide +kernel
theorem dX4_set_27 : decode cX4_set 27 = .ok (.putfield 48, 3) := by decide +kernel
theorem dX4_set_30 : decode cX4_set 30 = .ok (.iload_n 3, 1) := by decide +kernel
theorem dX4_set_31 : decode cX4_set 31 = .ok (.ireturn, 1) := by decide +kernel
theorem dX4_set_32 : decode cX4_set 32 = .ok (.iload_n 1, 1) := by decide +kernel
theorem dX4_set_33 : decode cX4_set 33 = .ok (.iconst 1, 1) := by decide +kernel
theorem dX4_set_34 : decode cX4_set 34 = .ok (.if_icmp .ne 31, 3) := by decide +kernel
theorem dX4_set_37 : decode cX4_set 37 = .ok (.iload_n 2, 1) := by decide +kernel
theorem dX4_set_38 : decode cX4_set 38 = .ok (.iconst 0, 1) := by decide +kernel
theorem dX4_set_39 : decode cX4_set 39 = .ok (.bipush 9, 2) := by decide +kernel
theorem dX4_set_41 : decode cX4_set 41 = .ok (.invokestatic 44, 3) := by decide +kernel
theorem dX4_set_44 : decode cX4_set 44 = .ok (.ifCond .eq 21, 3) := by decide +kernel
theorem dX4_set_47 : decode cX4_set 47 = .ok (.aload_n 0, 1) := by decide +kernel
theorem dX4_set_48 : decode cX4_set 48 = .ok (.getfield 10, 3) := by decide +kernel
theorem dX4_set_51 : decode cX4_set 51 = .ok (.getfield 52, 3) := by decide +kernel
theorem dX4_set_54 : decode cX4_set 54 = .ok (.istore_n 3, 1) := by decide +kernel
theorem dX4_set_55 : decode cX4_set 55 = .ok (.aload_n 0, 1) := by decide +kernel
theorem dX4_set_56 : decode cX4_set 56 = .ok (.getfield 10, 3) := by decide +kernel
theorem dX4_set_59 : decode cX4_set 59 = .ok (.iload_n 2, 1) := by decide +kernel
theorem dX4_set_60 : decode cX4_set 60 = .ok (.putfield 52, 3) := by decide +kernel
theorem dX4_set_63 : decode cX4_set 63 = .ok (.iload_n 3, 1) := by decide +kernel
theorem dX4_set_64 : decode cX4_set 64 = .ok (.ireturn, 1) := by decide +kernel
theorem dX4_set_65 : decode cX4_set 65 = .ok (.aload_n 0, 1) := by decide +kernel
theorem dX4_set_66 : decode cX4_set 66 = .ok (.iconst 0, 1) := by decide +kernel
theorem dX4_set_67 : decode cX4_set 67 = .ok (.invokevirtual 55, 3) := by decide +kernel
theorem dX4_set_70 : decode cX4_set 70 = .ok (.ireturn, 1) := by decide +kernel
theorem dX4_deed_0 : decode cX4_deed 0 = .ok (.iload_n 1, 1) := by decide +kernel
theorem dX4_deed_1 : decode cX4_deed 1 = .ok (.invokestatic 59, 3) := by decide +kernel
theorem dX4_deed_4 : decode cX4_deed 4 = .ok (.ifCond .eq 10, 3) := by decide +kernel
theorem dX4_deed_7 : decode cX4_deed 7 = .ok (.iload_n 2, 1) := by decide +kernel
theorem dX4_deed_8 : decode cX4_deed 8 = .ok (.invokestatic 63, 3) := by decide +kernel
theorem dX4_deed_11 : decode cX4_deed 11 = .ok (.ifCond .ne 9, 3) := by decide +kernel
theorem dX4_deed_14 : decode cX4_deed 14 = .ok (.aload_n 0, 1) := by decide +kernel
theorem dX4_deed_15 : decode cX4_deed 15 = .ok (.iconst 0, 1) := by decide +kernel
theorem dX4_deed_16 : decode cX4_deed 16 = .ok (.invokevirtual 55, 3) := by decide +kernel
theorem dX4_deed_19 : decode cX4_deed 19 = .ok (.ireturn, 1) := by decide +kernel
theorem dX4_deed_20 : decode cX4_deed 20 = .ok (.aload_n 0, 1) := by decide +kernel
theorem dX4_deed_21 : decode cX4_deed 21 = .ok (.getfield 10, 3) := by decide +kernel
theorem dX4_deed_24 : decode cX4_deed 24 = .ok (.getfield 66, 3) := by decide +kernel
theorem dX4_deed_27 : decode cX4_deed 27 = .ok (.iload_n 1, 1) := by decide +kernel
theorem dX4_deed_28 : decode cX4_deed 28 = .ok (.iaload, 1) := by decide +kernel
theorem dX4_deed_29 : decode cX4_deed 29 = .ok (.istore_n 3, 1) := by decide +kernel
theorem dX4_deed_30 : decode cX4_deed 30 = .ok (.aload_n 0, 1) := by decide +kernel
theorem dX4_deed_31 : decode cX4_deed 31 = .ok (.getfield 10, 3) := by decide +kernel
theorem dX4_deed_34 : decode cX4_deed 34 = .ok (.getfield 66, 3) := by decide +kernel
theorem dX4_deed_37 : decode cX4_deed 37 = .ok (.iload_n 1, 1) := by decide +kernel
theorem dX4_deed_38 : decode cX4_deed 38 = .ok (.iload_n 2, 1) := by decide +kernel
theorem dX4_deed_39 : decode cX4_deed 39 = .ok (.iastore, 1) := by decide +kernel
theorem dX4_deed_40 : decode cX4_deed 40 = .ok (.iload_n 3, 1) := by decide +kernel
theorem dX4_deed_41 : decode cX4_deed 41 = .ok (.ireturn, 1) := by decide +kernel
theorem dX4_listed_0 : decode cX4_listed 0 = .ok (.iload_n 1, 1) := by decide +kernel
theorem dX4_listed_1 : decode cX4_listed 1 = .ok (.invokestatic 59, 3) := by decide +kernel
theorem dX4_listed_4 : decode cX4_listed 4 = .ok (.ifCond .eq 15, 3) := by decide +kernel
theorem dX4_listed_7 : decode cX4_listed 7 = .ok (.aload_n 0, 1) := by decide +kernel
theorem dX4_listed_8 : decode cX4_listed 8 = .ok (.getfield 10, 3) := by decide +kernel
theorem dX4_listed_11 : decode cX4_listed 11 = .ok (.getfield 66, 3) := by decide +kernel
theorem dX4_listed_14 : decode cX4_listed 14 = .ok (.iload_n 1, 1) := by decide +kernel
theorem dX4_listed_15 : decode cX4_listed 15 = .ok (.iaload, 1) := by decide +kernel
theorem dX4_listed_16 : decode cX4_listed 16 = .ok (.goto 8, 3) := by decide +kernel
theorem dX4_listed_19 : decode cX4_listed 19 = .ok (.aload_n 0, 1) := by decide +kernel
theorem dX4_listed_20 : decode cX4_listed 20 = .ok (.iconst 0, 1) := by decide +kernel
theorem dX4_listed_21 : decode cX4_listed 21 = .ok (.invokevirtual 55, 3) := by decide +kernel
theorem dX4_listed_24 : decode cX4_listed 24 = .ok (.ireturn, 1) := by decide +kernel
theorem dX4_dish_0 : decode cX4_dish 0 = .ok (.iload_n 1, 1) := by decide +kernel
theorem dX4_dish_1 : decode cX4_dish 1 = .ok (.invokestatic 69, 3) := by decide +kernel
theorem dX4_dish_4 : decode cX4_dish 4 = .ok (.ifCond .eq 13, 3) := by decide +kernel
theorem dX4_dish_7 : decode cX4_dish 7 = .ok (.iload_n 2, 1) := by decide +kernel
theorem dX4_dish_8 : decode cX4_dish 8 = .ok (.iconst 0, 1) := by decide +kernel
theorem dX4_dish_9 : decode cX4_dish 9 = .ok (.bipush 99, 2) := by decide +kernel
theorem dX4_dish_11 : decode cX4_dish 11 = .ok (.invokestatic 44, 3) := by decide +kernel
theorem dX4_dish_14 : decode cX4_dish 14 = .ok (.ifCond .ne 9, 3) := by decide +kernel
theorem dX4_dish_17 : decode cX4_dish 17 = .ok (.aload_n 0, 1) := by decide +kernel
theorem dX4_dish_18 : decode cX4_dish 18 = .ok (.iconst 0, 1) := by decide +kernel
theorem dX4_dish_19 : decode cX4_dish 19 = .ok (.invokevirtual 55, 3) := by decide +kernel
theorem dX4_dish_22 : decode cX4_dish 22 = .ok (.ireturn, 1) := by decide +kernel
theorem dX4_dish_23 : decode cX4_dish 23 = .ok (.aload_n 0, 1) := by decide +kernel
theorem dX4_dish_24 : decode cX4_dish 24 = .ok (.getfield 10, 3) := by decide +kernel
theorem dX4_dish_27 : decode cX4_dish 27 = .ok (.getfield 72, 3) := by decide +kernel
theorem dX4_dish_30 : decode cX4_dish 30 = .ok (.bipush 8, 2) := by decide +kernel
theorem dX4_dish_32 : decode cX4_dish 32 = .ok (.if_icmp .lt 9, 3) := by decide +kernel
theorem dX4_dish_35 : decode cX4_dish 35 = .ok (.aload_n 0, 1) := by decide +kernel
theorem dX4_dish_36 : decode cX4_dish 36 = .ok (.iconst 1, 1) := by decide +kernel
theorem dX4_dish_37 : decode cX4_dish 37 = .ok (.invokevirtual 55, 3) := by decide +kernel
theorem dX4_dish_40 : decode cX4_dish 40 = .ok (.ireturn, 1) := by decide +kernel
theorem dX4_dish_41 : decode cX4_dish 41 = .ok (.aload_n 0, 1) := by decide +kernel
theorem dX4_dish_42 : decode cX4_dish 42 = .ok (.getfield 10, 3) := by decide +kernel
theorem dX4_dish_45 : decode cX4_dish 45 = .ok (.iload_n 1, 1) := by decide +kernel
theorem dX4_dish_46 : decode cX4_dish 46 = .ok (.invokevirtual 75, 3) := by decide +kernel
theorem dX4_dish_49 : decode cX4_dish 49 = .ok (.iload_n 2, 1) := by decide +kernel
theorem dX4_dish_50 : decode cX4_dish 50 = .ok (.putfield 79, 3) := by decide +kernel
theorem dX4_dish_53 : decode cX4_dish 53 = .ok (.aload_n 0, 1) := by decide +kernel
theorem dX4_dish_54 : decode cX4_dish 54 = .ok (.getfield 10, 3) := by decide +kernel
theorem dX4_dish_57 : decode cX4_dish 57 = .ok (.getfield 72, 3) := by decide +kernel
theorem dX4_dish_60 : decode cX4_dish 60 = .ok (.iconst 1, 1) := by decide +kernel
theorem dX4_dish_61 : decode cX4_dish 61 = .ok (.isub, 1) := by decide +kernel
theorem dX4_dish_62 : decode cX4_dish 62 = .ok (.ireturn, 1) := by decide +kernel
theorem dX4_of_0 : decode cX4_of 0 = .ok (.aload_n 0, 1) := by decide +kernel
theorem dX4_of_1 : decode cX4_of 1 = .ok (.iload_n 1, 1) := by decide +kernel
theorem dX4_of_2 : decode cX4_of 2 = .ok (.invokevirtual 84, 3) := by decide +kernel
theorem dX4_of_5 : decode cX4_of 5 = .ok (.ifCond .eq 13, 3) := by decide +kernel
theorem dX4_of_8 : decode cX4_of 8 = .ok (.iload_n 2, 1) := by decide +kernel
theorem dX4_of_9 : decode cX4_of 9 = .ok (.iconst 0, 1) := by decide +kernel
theorem dX4_of_10 : decode cX4_of 10 = .ok (.bipush 10, 2) := by decide +kernel
theorem dX4_of_12 : decode cX4_of 12 = .ok (.invokestatic 44, 3) := by decide +kernel
theorem dX4_of_15 : decode cX4_of 15 = .ok (.ifCond .ne 9, 3) := by decide +kernel
theorem dX4_of_18 : decode cX4_of 18 = .ok (.aload_n 0, 1) := by decide +kernel
theorem dX4_of_19 : decode cX4_of 19 = .ok (.iconst 0, 1) := by decide +kernel
theorem dX4_of_20 : decode cX4_of 20 = .ok (.invokevirtual 55, 3) := by decide +kernel
theorem dX4_of_23 : decode cX4_of 23 = .ok (.ireturn, 1) := by decide +kernel
theorem dX4_of_24 : decode cX4_of 24 = .ok (.aload_n 0, 1) := by decide +kernel
theorem dX4_of_25 : decode cX4_of 25 = .ok (.getfield 10, 3) := by decide +kernel
theorem dX4_of_28 : decode cX4_of 28 = .ok (.iload_n 1, 1) := by decide +kernel
theorem dX4_of_29 : decode cX4_of 29 = .ok (.iload_n 2, 1) := by decide +kernel
theorem dX4_of_30 : decode cX4_of 30 = .ok (.invokevirtual 87, 3) := by decide +kernel
theorem dX4_of_33 : decode cX4_of 33 = .ok (.ireturn, 1) := by decide +kernel
theorem dX4_change_0 : decode cX4_change 0 = .ok (.aload_n 0, 1) := by decide +kernel
theorem dX4_change_1 : decode cX4_change 1 = .ok (.iload_n 1, 1) := by decide +kernel
theorem dX4_change_2 : decode cX4_change 2 = .ok (.invokevirtual 84, 3) := by decide +kernel
theorem dX4_change_5 : decode cX4_change 5 = .ok (.ifCond .eq 24, 3) := by decide +kernel
theorem dX4_change_8 : decode cX4_change 8 = .ok (.iload_n 2, 1) := by decide +kernel
theorem dX4_change_9 : decode cX4_change 9 = .ok (.iconst 0, 1) := by decide +kernel
theorem dX4_change_10 : decode cX4_change 10 = .ok (.iconst 5, 1) := by decide +kernel
theorem dX4_change_11 : decode cX4_change 11 = .ok (.invokestatic 44, 3) := by decide +kernel
theorem dX4_change_14 : decode cX4_change 14 = .ok (.ifCond .eq 15, 3) := by decide +kernel
theorem dX4_change_17 : decode cX4_change 17 = .ok (.iload_n 3, 1) := by decide +kernel
theorem dX4_change_18 : decode cX4_change 18 = .ok (.iconst 0, 1) := by decide +kernel
theorem dX4_change_19 : decode cX4_change 19 = .ok (.iload_n 2, 1) := by decide +kernel
theorem dX4_change_20 : decode cX4_change 20 = .ok (.invokestatic 91, 3) := by decide +kernel
theorem dX4_change_23 : decode cX4_change 23 = .ok (.invokestatic 44, 3) := by decide +kernel
theorem dX4_change_26 : decode cX4_change 26 = .ok (.ifCond .ne 9, 3) := by decide +kernel
theorem dX4_change_29 : decode cX4_change 29 = .ok (.aload_n 0, 1) := by decide +kernel
theorem dX4_change_30 : decode cX4_change 30 = .ok (.iconst 0, 1) := by decide +kernel
theorem dX4_change_31 : decode cX4_change 31 = .ok (.invokevirtual 55, 3) := by decide +kernel
theorem dX4_change_34 : decode cX4_change 34 = .ok (.ireturn, 1) := by decide +kernel
theorem dX4_change_35 : decode cX4_change 35 = .ok (.aload_n 0, 1) := by decide +kernel
theorem dX4_change_36 : decode cX4_change 36 = .ok (.getfield 10, 3) := by decide +kernel
theorem dX4_change_39 : decode cX4_change 39 = .ok (.iload_n 1, 1) := by decide +kernel
theorem dX4_change_40 : decode cX4_change 40 = .ok (.iload_n 2, 1) := by decide +kernel
theorem dX4_change_41 : decode cX4_change 41 = .ok (.invokevirtual 87, 3) := by decide +kernel
theorem dX4_change_44 : decode cX4_change 44 = .ok (.istore 4, 2) := by decide +kernel
theorem dX4_change_46 : decode cX4_change 46 = .ok (.aload_n 0, 1) := by decide +kernel
theorem dX4_change_47 : decode cX4_change 47 = .ok (.getfield 10, 3) := by decide +kernel
theorem dX4_change_50 : decode cX4_change 50 = .ok (.getfield 94, 3) := by decide +kernel
theorem dX4_change_53 : decode cX4_change 53 = .ok (.iload_n 1, 1) := by decide +kernel
theorem dX4_change_54 : decode cX4_change 54 = .ok (.aaload, 1) := by decide +kernel
theorem dX4_change_55 : decode cX4_change 55 = .ok (.iload_n 2, 1) := by decide +kernel
theorem dX4_change_56 : decode cX4_change 56 = .ok (.iload_n 3, 1) := by decide +kernel
theorem dX4_change_57 : decode cX4_change 57 = .ok (.invokevirtual 98, 3) := by decide +kernel
theorem dX4_change_60 : decode cX4_change 60 = .ok (.iload 4, 2) := by decide +kernel
theorem dX4_change_62 : decode cX4_change 62 = .ok (.ireturn, 1) := by decide +kernel
theorem dX4_serve_0 : decode cX4_serve 0 = .ok (.aload_n 0, 1) := by decide +kernel
theorem dX4_serve_1 : decode cX4_serve 1 = .ok (.iload_n 1, 1) := by decide +kernel
theorem dX4_serve_2 : decode cX4_serve 2 = .ok (.invokevirtual 84, 3) := by decide +kernel
theorem dX4_serve_5 : decode cX4_serve 5 = .ok (.ifCond .ne 9, 3) := by decide +kernel
theorem dX4_serve_8 : decode cX4_serve 8 = .ok (.aload_n 0, 1) := by decide +kernel
theorem dX4_serve_9 : decode cX4_serve 9 = .ok (.iconst 0, 1) := by decide +kernel
theorem dX4_serve_10 : decode cX4_serve 10 = .ok (.invokevirtual 55, 3) := by decide +kernel
theorem dX4_serve_13 : decode cX4_serve 13 = .ok (.ireturn, 1) := by decide +kernel
theorem dX4_serve_14 : decode cX4_serve 14 = .ok (.aload_n 0, 1) := by decide +kernel
theorem dX4_serve_15 : decode cX4_serve 15 = .ok (.getfield 10, 3) := by decide +kernel
theorem dX4_serve_18 : decode cX4_serve 18 = .ok (.getfield 94, 3) := by decide +kernel
theorem dX4_serve_21 : decode cX4_serve 21 = .ok (.iload_n 1, 1) := by decide +kernel
theorem dX4_serve_22 : decode cX4_serve 22 = .ok (.aaload, 1) := by decide +kernel
theorem dX4_serve_23 : decode cX4_serve 23 = .ok (.getfield 102, 3) := by decide +kernel
theorem dX4_serve_26 : decode cX4_serve 26 = .ok (.iconst 1, 1) := by decide +kernel
theorem dX4_serve_27 : decode cX4_serve 27 = .ok (.if_icmp .ne 9, 3) := by decide +kernel
theorem dX4_serve_30 : decode cX4_serve 30 = .ok (.aload_n 0, 1) := by decide +kernel
theorem dX4_serve_31 : decode cX4_serve 31 = .ok (.iconst 4, 1) := by decide +kernel
theorem dX4_serve_32 : decode cX4_serve 32 = .ok (.invokevirtual 55, 3) := by decide +kernel
theorem dX4_serve_35 : decode cX4_serve 35 = .ok (.ireturn, 1) := by decide +kernel
theorem dX4_serve_36 : decode cX4_serve 36 = .ok (.aload_n 0, 1) := by decide +kernel
theorem dX4_serve_37 : decode cX4_serve 37 = .ok (.getfield 10, 3) := by decide +kernel
theorem dX4_serve_40 : decode cX4_serve 40 = .ok (.iload_n 1, 1) := by decide +kernel
theorem dX4_serve_41 : decode cX4_serve 41 = .ok (.invokevirtual 105, 3) := by decide +kernel
theorem dX4_serve_44 : decode cX4_serve 44 = .ok (.ireturn, 1) := by decide +kernel
theorem dX4_act_0 : decode cX4_act 0 = .ok (.iload_n 1, 1) := by decide +kernel
theorem dX4_act_1 : decode cX4_act 1 = .ok (.invokestatic 63, 3) := by decide +kernel
theorem dX4_act_4 : decode cX4_act 4 = .ok (.ifCond .ne 9, 3) := by decide +kernel
theorem dX4_act_7 : decode cX4_act 7 = .ok (.aload_n 0, 1) := by decide +kernel
theorem dX4_act_8 : decode cX4_act 8 = .ok (.iconst 0, 1) := by decide +kernel
theorem dX4_act_9 : decode cX4_act 9 = .ok (.invokevirtual 55, 3) := by decide +kernel
theorem dX4_act_12 : decode cX4_act 12 = .ok (.ireturn, 1) := by decide +kernel
theorem dX4_act_13 : decode cX4_act 13 = .ok (.aload_n 0, 1) := by decide +kernel
theorem dX4_act_14 : decode cX4_act 14 = .ok (.getfield 10, 3) := by decide +kernel
theorem dX4_act_17 : decode cX4_act 17 = .ok (.aload_n 0, 1) := by decide +kernel
theorem dX4_act_18 : decode cX4_act 18 = .ok (.getfield 10, 3) := by decide +kernel
theorem dX4_act_21 : decode cX4_act 21 = .ok (.getfield 48, 3) := by decide +kernel
theorem dX4_act_24 : decode cX4_act 24 = .ok (.iload_n 1, 1) := by decide +kernel
theorem dX4_act_25 : decode cX4_act 25 = .ok (.invokestatic 108, 3) := by decide +kernel
theorem dX4_act_28 : decode cX4_act 28 = .ok (.putfield 48, 3) := by decide +kernel
theorem dX4_act_31 : decode cX4_act 31 = .ok (.aload_n 0, 1) := by decide +kernel
theorem dX4_act_32 : decode cX4_act 32 = .ok (.getfield 10, 3) := by decide +kernel
theorem dX4_act_35 : decode cX4_act 35 = .ok (.getfield 48, 3) := by decide +kernel
theorem dX4_act_38 : decode cX4_act 38 = .ok (.ireturn, 1) := by decide +kernel
theorem dX4_go_0 : decode cX4_go 0 = .ok (.iload_n 1, 1) := by decide +kernel
theorem dX4_go_1 : decode cX4_go 1 = .ok (.iconst 1, 1) := by decide +kernel
theorem dX4_go_2 : decode cX4_go 2 = .ok (.bipush 60, 2) := by decide +kernel
theorem dX4_go_4 : decode cX4_go 4 = .ok (.invokestatic 44, 3) := by decide +kernel
theorem dX4_go_7 : decode cX4_go 7 = .ok (.ifCond .ne 9, 3) := by decide +kernel
theorem dX4_go_10 : decode cX4_go 10 = .ok (.aload_n 0, 1) := by decide +kernel
theorem dX4_go_11 : decode cX4_go 11 = .ok (.iconst 0, 1) := by decide +kernel
theorem dX4_go_12 : decode cX4_go 12 = .ok (.invokevirtual 55, 3) := by decide +kernel
theorem dX4_go_15 : decode cX4_go 15 = .ok (.ireturn, 1) := by decide +kernel
theorem dX4_go_16 : decode cX4_go 16 = .ok (.aload_n 0, 1) := by decide +kernel
theorem dX4_go_17 : decode cX4_go 17 = .ok (.getfield 10, 3) := by decide +kernel
theorem dX4_go_20 : decode cX4_go 20 = .ok (.getfield 111, 3) := by decide +kernel
theorem dX4_go_23 : decode cX4_go 23 = .ok (.iload_n 1, 1) := by decide +kernel
theorem dX4_go_24 : decode cX4_go 24 = .ok (.iadd, 1) := by decide +kernel
theorem dX4_go_25 : decode cX4_go 25 = .ok (.ldc 114, 2) := by decide +kernel
theorem dX4_go_27 : decode cX4_go 27 = .ok (.if_icmp .le 9, 3) := by decide +kernel
theorem dX4_go_30 : decode cX4_go 30 = .ok (.aload_n 0, 1) := by decide +kernel
theorem dX4_go_31 : decode cX4_go 31 = .ok (.iconst 4, 1) := by decide +kernel
theorem dX4_go_32 : decode cX4_go 32 = .ok (.invokevirtual 55, 3) := by decide +kernel
theorem dX4_go_35 : decode cX4_go 35 = .ok (.ireturn, 1) := by decide +kernel
theorem dX4_go_36 : decode cX4_go 36 = .ok (.aload_n 0, 1) := by decide +kernel
theorem dX4_go_37 : decode cX4_go 37 = .ok (.getfield 10, 3) := by decide +kernel
theorem dX4_go_40 : decode cX4_go 40 = .ok (.iload_n 1, 1) := by decide +kernel
theorem dX4_go_41 : decode cX4_go 41 = .ok (.invokevirtual 115, 3) := by decide +kernel
theorem dX4_go_44 : decode cX4_go 44 = .ok (.aload_n 0, 1) := by decide +kernel
theorem dX4_go_45 : decode cX4_go 45 = .ok (.getfield 10, 3) := by decide +kernel
theorem dX4_go_48 : decode cX4_go 48 = .ok (.getfield 48, 3) := by decide +kernel
theorem dX4_go_51 : decode cX4_go 51 = .ok (.ireturn, 1) := by decide +kernel
theorem dX4_now_0 : decode cX4_now 0 = .ok (.iload_n 1, 1) := by decide +kernel
theorem dX4_now_1 : decode cX4_now 1 = .ok (.tableswitch 111 0 7 #[47, 55, 63, 71, 79, 87, 95, 103], 47) := by decide +kernel
theorem dX4_now_48 : decode cX4_now 48 = .ok (.aload_n 0, 1) := by decide +kernel
theorem dX4_now_49 : decode cX4_now 49 = .ok (.getfield 10, 3) := by decide +kernel
theorem dX4_now_52 : decode cX4_now 52 = .ok (.getfield 111, 3) := by decide +kernel
theorem dX4_now_55 : decode cX4_now 55 = .ok (.ireturn, 1) := by decide +kernel
theorem dX4_now_56 : decode cX4_now 56 = .ok (.aload_n 0, 1) := by decide +kernel
theorem dX4_now_57 : decode cX4_now 57 = .ok (.getfield 10, 3) := by decide +kernel
theorem dX4_now_60 : decode cX4_now 60 = .ok (.getfield 48, 3) := by decide +kernel
theorem dX4_now_63 : decode cX4_now 63 = .ok (.ireturn, 1) := by decide +kernel
theorem dX4_now_64 : decode cX4_now 64 = .ok (.aload_n 0, 1) := by decide +kernel
theorem dX4_now_65 : decode cX4_now 65 = .ok (.getfield 10, 3) := by decide +kernel
theorem dX4_now_68 : decode cX4_now 68 = .ok (.getfield 119, 3) := by decide +kernel
theorem dX4_now_71 : decode cX4_now 71 = .ok (.ireturn, 1) := by decide +kernel
theorem dX4_now_72 : decode cX4_now 72 = .ok (.aload_n 0, 1) := by decide +kernel
theorem dX4_now_73 : decode cX4_now 73 = .ok (.getfield 10, 3) := by decide +kernel
theorem dX4_now_76 : decode cX4_now 76 = .ok (.invokevirtual 122, 3) := by decide +kernel
theorem dX4_now_79 : decode cX4_now 79 = .ok (.ireturn, 1) := by decide +kernel
theorem dX4_now_80 : decode cX4_now 80 = .ok (.aload_n 0, 1) := by decide +kernel
theorem dX4_now_81 : decode cX4_now 81 = .ok (.getfield 10, 3) := by decide +kernel
theorem dX4_now_84 : decode cX4_now 84 = .ok (.invokevirtual 126, 3) := by decide +kernel
theorem dX4_now_87 : decode cX4_now 87 = .ok (.ireturn, 1) := by decide +kernel
theorem dX4_now_88 : decode cX4_now 88 = .ok (.aload_n 0, 1) := by decide +kernel
theorem dX4_now_89 : decode cX4_now 89 = .ok (.getfield 10, 3) := by decide +kernel
theorem dX4_now_92 : decode cX4_now 92 = .ok (.invokevirtual 129, 3) := by decide +kernel
theorem dX4_now_95 : decode cX4_now 95 = .ok (.ireturn, 1) := by decide +kernel
theorem dX4_now_96 : decode cX4_now 96 = .ok (.aload_n 0, 1) := by decide +kernel
theorem dX4_now_97 : decode cX4_now 97 = .ok (.getfield 10, 3) := by decide +kernel
theorem dX4_now_100 : decode cX4_now 100 = .ok (.invokevirtual 132, 3) := by decide +kernel
theorem dX4_now_103 : decode cX4_now 103 = .ok (.ireturn, 1) := by decide +kernel
theorem dX4_now_104 : decode cX4_now 104 = .ok (.aload_n 0, 1) := by decide +kernel
theorem dX4_now_105 : decode cX4_now 105 = .ok (.getfield 10, 3) := by decide +kernel
theorem dX4_now_108 : decode cX4_now 108 = .ok (.invokevirtual 135, 3) := by decide +kernel
theorem dX4_now_111 : decode cX4_now 111 = .ok (.ireturn, 1) := by decide +kernel
theorem dX4_now_112 : decode cX4_now 112 = .ok (.aload_n 0, 1) := by decide +kernel
theorem dX4_now_113 : decode cX4_now 113 = .ok (.iconst 0, 1) := by decide +kernel
theorem dX4_now_114 : decode cX4_now 114 = .ok (.invokevirtual 55, 3) := by decide +kernel
theorem dX4_now_117 : decode cX4_now 117 = .ok (.ireturn, 1) := by decide +kernel
theorem dX4_ahead_0 : decode cX4_ahead 0 = .ok (.iload_n 2, 1) := by decide +kernel
theorem dX4_ahead_1 : decode cX4_ahead 1 = .ok (.iconst 1, 1) := by decide +kernel
theorem dX4_ahead_2 : decode cX4_ahead 2 = .ok (.iconst 3, 1) := by decide +kernel
theorem dX4_ahead_3 : decode cX4_ahead 3 = .ok (.invokestatic 44, 3) := by decide +kernel
theorem dX4_ahead_6 : decode cX4_ahead 6 = .ok (.ifCond .ne 9, 3) := by decide +kernel
theorem dX4_ahead_9 : decode cX4_ahead 9 = .ok (.iload_n 2, 1) := by decide +kernel
theorem dX4_ahead_10 : decode cX4_ahead 10 = .ok (.bipush 10, 2) := by decide +kernel
theorem dX4_ahead_12 : decode cX4_ahead 12 = .ok (.if_icmp .ne 7, 3) := by decide +kernel
theorem dX4_ahead_15 : decode cX4_ahead 15 = .ok (.iconst 1, 1) := by decide +kernel
theorem dX4_ahead_16 : decode cX4_ahead 16 = .ok (.goto 4, 3) := by decide +kernel
theorem dX4_ahead_19 : decode cX4_ahead 19 = .ok (.iconst 0, 1) := by decide +kernel
theorem dX4_ahead_20 : decode cX4_ahead 20 = .ok (.istore 4, 2) := by decide +kernel
theorem dX4_ahead_22 : decode cX4_ahead 22 = .ok (.aload_n 0, 1) := by decide +kernel
theorem dX4_ahead_23 : decode cX4_ahead 23 = .ok (.iload_n 1, 1) := by decide +kernel
theorem dX4_ahead_24 : decode cX4_ahead 24 = .ok (.invokevirtual 84, 3) := by decide +kernel
theorem dX4_ahead_27 : decode cX4_ahead 27 = .ok (.ifCond .eq 18, 3) := by decide +kernel
theorem dX4_ahead_30 : decode cX4_ahead 30 = .ok (.iload 4, 2) := by decide +kernel
theorem dX4_ahead_32 : decode cX4_ahead 32 = .ok (.ifCond .eq 13, 3) := by decide +kernel
theorem dX4_ahead_35 : decode cX4_ahead 35 = .ok (.iload_n 3, 1) := by decide +kernel
theorem dX4_ahead_36 : decode cX4_ahead 36 = .ok (.iconst 0, 1) := by decide +kernel
theorem dX4_ahead_37 : decode cX4_ahead 37 = .ok (.bipush 100, 2) := by decide +kernel
theorem dX4_ahead_39 : decode cX4_ahead 39 = .ok (.invokestatic 44, 3) := by decide +kernel
theorem dX4_ahead_42 : decode cX4_ahead 42 = .ok (.ifCond .ne 9, 3) := by decide +kernel
theorem dX4_ahead_45 : decode cX4_ahead 45 = .ok (.aload_n 0, 1) := by decide +kernel
theorem dX4_ahead_46 : decode cX4_ahead 46 = .ok (.iconst 0, 1) := by decide +kernel
theorem dX4_ahead_47 : decode cX4_ahead 47 = .ok (.invokevirtual 55, 3) := by decide +kernel
theorem dX4_ahead_50 : decode cX4_ahead 50 = .ok (.ireturn, 1) := by decide +kernel
theorem dX4_ahead_51 : decode cX4_ahead 51 = .ok (.aload_n 0, 1) := by decide +kernel
theorem dX4_ahead_52 : decode cX4_ahead 52 = .ok (.getfield 19, 3) := by decide +kernel
theorem dX4_ahead_55 : decode cX4_ahead 55 = .ok (.aload_n 0, 1) := by decide +kernel
theorem dX4_ahead_56 : decode cX4_ahead 56 = .ok (.getfield 10, 3) := by decide +kernel
theorem dX4_ahead_59 : decode cX4_ahead 59 = .ok (.iload_n 1, 1) := by decide +kernel
theorem dX4_ahead_60 : decode cX4_ahead 60 = .ok (.invokevirtual 138, 3) := by decide +kernel
theorem dX4_ahead_63 : decode cX4_ahead 63 = .ok (.aload_n 0, 1) := by decide +kernel
theorem dX4_ahead_64 : decode cX4_ahead 64 = .ok (.getfield 19, 3) := by decide +kernel
theorem dX4_ahead_67 : decode cX4_ahead 67 = .ok (.iload_n 3, 1) := by decide +kernel
theorem dX4_ahead_68 : decode cX4_ahead 68 = .ok (.invokevirtual 115, 3) := by decide +kernel
theorem dX4_ahead_71 : decode cX4_ahead 71 = .ok (.aload_n 0, 1) := by decide +kernel
theorem dX4_ahead_72 : decode cX4_ahead 72 = .ok (.getfield 19, 3) := by decide +kernel
theorem dX4_ahead_75 : decode cX4_ahead 75 = .ok (.iconst 0, 1) := by decide +kernel
theorem dX4_ahead_76 : decode cX4_ahead 76 = .ok (.iload_n 2, 1) := by decide +kernel
theorem dX4_ahead_77 : decode cX4_ahead 77 = .ok (.invokevirtual 87, 3) := by decide +kernel
theorem dX4_ahead_80 : decode cX4_ahead 80 = .ok (.ireturn, 1) := by decide +kernel
theorem dX4_mood_0 : decode cX4_mood 0 = .ok (.iload_n 1, 1) := by decide +kernel
theorem dX4_mood_1 : decode cX4_mood 1 = .ok (.iconst 0, 1) := by decide +kernel
theorem dX4_mood_2 : decode cX4_mood 2 = .ok (.bipush 100, 2) := by decide +kernel
theorem dX4_mood_4 : decode cX4_mood 4 = .ok (.invokestatic 44, 3) := by decide +kernel
theorem dX4_mood_7 : decode cX4_mood 7 = .ok (.ifCond .ne 9, 3) := by decide +kernel
theorem dX4_mood_10 : decode cX4_mood 10 = .ok (.aload_n 0, 1) := by decide +kernel
theorem dX4_mood_11 : decode cX4_mood 11 = .ok (.iconst 0, 1) := by decide +kernel
theorem dX4_mood_12 : decode cX4_mood 12 = .ok (.invokevirtual 55, 3) := by decide +kernel
theorem dX4_mood_15 : decode cX4_mood 15 = .ok (.ireturn, 1) := by decide +kernel
theorem dX4_mood_16 : decode cX4_mood 16 = .ok (.aload_n 0, 1) := by decide +kernel
theorem dX4_mood_17 : decode cX4_mood 17 = .ok (.getfield 19, 3) := by decide +kernel
theorem dX4_mood_20 : decode cX4_mood 20 = .ok (.aload_n 0, 1) := by decide +kernel
theorem dX4_mood_21 : decode cX4_mood 21 = .ok (.getfield 10, 3) := by decide +kernel
theorem dX4_mood_24 : decode cX4_mood 24 = .ok (.invokevirtual 142, 3) := by decide +kernel
theorem dX4_mood_27 : decode cX4_mood 27 = .ok (.aload_n 0, 1) := by decide +kernel
theorem dX4_mood_28 : decode cX4_mood 28 = .ok (.getfield 19, 3) := by decide +kernel
theorem dX4_mood_31 : decode cX4_mood 31 = .ok (.iload_n 1, 1) := by decide +kernel
theorem dX4_mood_32 : decode cX4_mood 32 = .ok (.invokevirtual 115, 3) := by decide +kernel
theorem dX4_mood_35 : decode cX4_mood 35 = .ok (.aload_n 0, 1) := by decide +kernel
theorem dX4_mood_36 : decode cX4_mood 36 = .ok (.getfield 19, 3) := by decide +kernel
theorem dX4_mood_39 : decode cX4_mood 39 = .ok (.getfield 48, 3) := by decide +kernel
theorem dX4_mood_42 : decode cX4_mood 42 = .ok (.ireturn, 1) := by decide +kernel
theorem dX4_splits_0 : decode cX4_splits 0 = .ok (.aload_n 0, 1) := by decide +kernel
theorem dX4_splits_1 : decode cX4_splits 1 = .ok (.iload_n 1, 1) := by decide +kernel
theorem dX4_splits_2 : decode cX4_splits 2 = .ok (.invokevirtual 84, 3) := by decide +kernel
theorem dX4_splits_5 : decode cX4_splits 5 = .ok (.ifCond .ne 9, 3) := by decide +kernel
theorem dX4_splits_8 : decode cX4_splits 8 = .ok (.aload_n 0, 1) := by decide +kernel
theorem dX4_splits_9 : decode cX4_splits 9 = .ok (.iconst 0, 1) := by decide +kernel
theorem dX4_splits_10 : decode cX4_splits 10 = .ok (.invokevirtual 55, 3) := by decide +kernel
theorem dX4_splits_13 : decode cX4_splits 13 = .ok (.ireturn, 1) := by decide +kernel
theorem dX4_splits_14 : decode cX4_splits 14 = .ok (.aload_n 0, 1) := by decide +kernel
theorem dX4_splits_15 : decode cX4_splits 15 = .ok (.getfield 19, 3) := by decide +kernel
theorem dX4_splits_18 : decode cX4_splits 18 = .ok (.aload_n 0, 1) := by decide +kernel
theorem dX4_splits_19 : decode cX4_splits 19 = .ok (.getfield 10, 3) := by decide +kernel
theorem dX4_splits_22 : decode cX4_splits 22 = .ok (.iload_n 1, 1) := by decide +kernel
theorem dX4_splits_23 : decode cX4_splits 23 = .ok (.invokevirtual 138, 3) := by decide +kernel
theorem dX4_splits_26 : decode cX4_splits 26 = .ok (.iconst 0, 1) := by decide +kernel
theorem dX4_splits_27 : decode cX4_splits 27 = .ok (.istore_n 2, 1) := by decide +kernel
theorem dX4_splits_28 : decode cX4_splits 28 = .ok (.iload_n 2, 1) := by decide +kernel
theorem dX4_splits_29 : decode cX4_splits 29 = .ok (.sipush 200, 3) := by decide +kernel
theorem dX4_splits_32 : decode cX4_splits 32 = .ok (.if_icmp .gt 34, 3) := by decide +kernel
theorem dX4_splits_35 : decode cX4_splits 35 = .ok (.aload_n 0, 1) := by decide +kernel
theorem dX4_splits_36 : decode cX4_splits 36 = .ok (.getfield 19, 3) := by decide +kernel
theorem dX4_splits_39 : decode cX4_splits 39 = .ok (.getfield 94, 3) := by decide +kernel
theorem dX4_splits_42 : decode cX4_splits 42 = .ok (.iconst 0, 1) := by decide +kernel
theorem dX4_splits_43 : decode cX4_splits 43 = .ok (.aaload, 1) := by decide +kernel
theorem dX4_splits_44 : decode cX4_splits 44 = .ok (.getfield 146, 3) := by decide +kernel
theorem dX4_splits_47 : decode cX4_splits 47 = .ok (.iconst 1, 1) := by decide +kernel
theorem dX4_splits_48 : decode cX4_splits 48 = .ok (.if_icmp .ne 5, 3) := by decide +kernel
theorem dX4_splits_51 : decode cX4_splits 51 = .ok (.iload_n 2, 1) := by decide +kernel
theorem dX4_splits_52 : decode cX4_splits 52 = .ok (.ireturn, 1) := by decide +kernel
theorem dX4_splits_53 : decode cX4_splits 53 = .ok (.aload_n 0, 1) := by decide +kernel
theorem dX4_splits_54 : decode cX4_splits 54 = .ok (.getfield 19, 3) := by decide +kernel
theorem dX4_splits_57 : decode cX4_splits 57 = .ok (.invokevirtual 149, 3) := by decide +kernel
theorem dX4_splits_60 : decode cX4_splits 60 = .ok (.iinc 2 1, 3) := by decide +kernel
theorem dX4_splits_63 : decode cX4_splits 63 = .ok (.goto (-35), 3) := by decide +kernel
theorem dX4_splits_66 : decode cX4_splits 66 = .ok (.aload_n 0, 1) := by decide +kernel
theorem dX4_splits_67 : decode cX4_splits 67 = .ok (.iconst 3, 1) := by decide +kernel
theorem dX4_splits_68 : decode cX4_splits 68 = .ok (.invokevirtual 55, 3) := by decide +kernel
theorem dX4_splits_71 : decode cX4_splits 71 = .ok (.ireturn, 1) := by decide +kernel
theorem dX4_ready_0 : decode cX4_ready 0 = .ok (.aload_n 0, 1) := by decide +kernel
theorem dX4_ready_1 : decode cX4_ready 1 = .ok (.iload_n 1, 1) := by decide +kernel
theorem dX4_ready_2 : decode cX4_ready 2 = .ok (.invokevirtual 84, 3) := by decide +kernel
theorem dX4_ready_5 : decode cX4_ready 5 = .ok (.ifCond .eq 14, 3) := by decide +kernel
theorem dX4_ready_8 : decode cX4_ready 8 = .ok (.iload_n 2, 1) := by decide +kernel
theorem dX4_ready_9 : decode cX4_ready 9 = .ok (.iconst 0, 1) := by decide +kernel
theorem dX4_ready_10 : decode cX4_ready 10 = .ok (.sipush 999, 3) := by decide +kernel
theorem dX4_ready_13 : decode cX4_ready 13 = .ok (.invokestatic 44, 3) := by decide +kernel
theorem dX4_ready_16 : decode cX4_ready 16 = .ok (.ifCond .ne 9, 3) := by decide +kernel
theorem dX4_ready_19 : decode cX4_ready 19 = .ok (.aload_n 0, 1) := by decide +kernel
theorem dX4_ready_20 : decode cX4_ready 20 = .ok (.iconst 0, 1) := by decide +kernel
theorem dX4_ready_21 : decode cX4_ready 21 = .ok (.invokevirtual 55, 3) := by decide +kernel
theorem dX4_ready_24 : decode cX4_ready 24 = .ok (.ireturn, 1) := by decide +kernel
theorem dX4_ready_25 : decode cX4_ready 25 = .ok (.aload_n 0, 1) := by decide +kernel
theorem dX4_ready_26 : decode cX4_ready 26 = .ok (.getfield 19, 3) := by decide +kernel
theorem dX4_ready_29 : decode cX4_ready 29 = .ok (.aload_n 0, 1) := by decide +kernel
theorem dX4_ready_30 : decode cX4_ready 30 = .ok (.getfield 10, 3) := by decide +kernel
theorem dX4_ready_33 : decode cX4_ready 33 = .ok (.iload_n 1, 1) := by decide +kernel
theorem dX4_ready_34 : decode cX4_ready 34 = .ok (.invokevirtual 138, 3) := by decide +kernel
theorem dX4_ready_37 : decode cX4_ready 37 = .ok (.iconst 0, 1) := by decide +kernel
theorem dX4_ready_38 : decode cX4_ready 38 = .ok (.istore_n 3, 1) := by decide +kernel
theorem dX4_ready_39 : decode cX4_ready 39 = .ok (.iload_n 3, 1) := by decide +kernel
theorem dX4_ready_40 : decode cX4_ready 40 = .ok (.sipush 200, 3) := by decide +kernel
theorem dX4_ready_43 : decode cX4_ready 43 = .ok (.if_icmp .gt 30, 3) := by decide +kernel
theorem dX4_ready_46 : decode cX4_ready 46 = .ok (.aload_n 0, 1) := by decide +kernel
theorem dX4_ready_47 : decode cX4_ready 47 = .ok (.getfield 19, 3) := by decide +kernel
theorem dX4_ready_50 : decode cX4_ready 50 = .ok (.iconst 0, 1) := by decide +kernel
theorem dX4_ready_51 : decode cX4_ready 51 = .ok (.invokevirtual 152, 3) := by decide +kernel
theorem dX4_ready_54 : decode cX4_ready 54 = .ok (.iload_n 2, 1) := by decide +kernel
theorem dX4_ready_55 : decode cX4_ready 55 = .ok (.if_icmp .lt 5, 3) := by decide +kernel
theorem dX4_ready_58 : decode cX4_ready 58 = .ok (.iload_n 3, 1) := by decide +kernel
theorem dX4_ready_59 : decode cX4_ready 59 = .ok (.ireturn, 1) := by decide +kernel
theorem dX4_ready_60 : decode cX4_ready 60 = .ok (.aload_n 0, 1) := by decide +kernel
theorem dX4_ready_61 : decode cX4_ready 61 = .ok (.getfield 19, 3) := by decide +kernel
theorem dX4_ready_64 : decode cX4_ready 64 = .ok (.invokevirtual 149, 3) := by decide +kernel
theorem dX4_ready_67 : decode cX4_ready 67 = .ok (.iinc 3 1, 3) := by decide +kernel
theorem dX4_ready_70 : decode cX4_ready 70 = .ok (.goto (-31), 3) := by decide +kernel
theorem dX4_ready_73 : decode cX4_ready 73 = .ok (.aload_n 0, 1) := by decide +kernel
theorem dX4_ready_74 : decode cX4_ready 74 = .ok (.iconst 3, 1) := by decide +kernel
theorem dX4_ready_75 : decode cX4_ready 75 = .ok (.invokevirtual 55, 3) := by decide +kernel
theorem dX4_ready_78 : decode cX4_ready 78 = .ok (.ireturn, 1) := by decide +kernel
theorem dX4_peace_0 : decode cX4_peace 0 = .ok (.iload_n 1, 1) := by decide +kernel
theorem dX4_peace_1 : decode cX4_peace 1 = .ok (.iconst 0, 1) := by decide +kernel
theorem dX4_peace_2 : decode cX4_peace 2 = .ok (.bipush 99, 2) := by decide +kernel
theorem dX4_peace_4 : decode cX4_peace 4 = .ok (.invokestatic 44, 3) := by decide +kernel
theorem dX4_peace_7 : decode cX4_peace 7 = .ok (.ifCond .ne 9, 3) := by decide +kernel
theorem dX4_peace_10 : decode cX4_peace 10 = .ok (.aload_n 0, 1) := by decide +kernel
theorem dX4_peace_11 : decode cX4_peace 11 = .ok (.iconst 0, 1) := by decide +kernel
theorem dX4_peace_12 : decode cX4_peace 12 = .ok (.invokevirtual 55, 3) := by decide +kernel
theorem dX4_peace_15 : decode cX4_peace 15 = .ok (.ireturn, 1) := by decide +kernel
theorem dX4_peace_16 : decode cX4_peace 16 = .ok (.aload_n 0, 1) := by decide +kernel
theorem dX4_peace_17 : decode cX4_peace 17 = .ok (.getfield 19, 3) := by decide +kernel
theorem dX4_peace_20 : decode cX4_peace 20 = .ok (.aload_n 0, 1) := by decide +kernel
theorem dX4_peace_21 : decode cX4_peace 21 = .ok (.getfield 10, 3) := by decide +kernel
theorem dX4_peace_24 : decode cX4_peace 24 = .ok (.invokevirtual 142, 3) := by decide +kernel
theorem dX4_peace_27 : decode cX4_peace 27 = .ok (.iconst 0, 1) := by decide +kernel
theorem dX4_peace_28 : decode cX4_peace 28 = .ok (.istore_n 2, 1) := by decide +kernel
theorem dX4_peace_29 : decode cX4_peace 29 = .ok (.iload_n 2, 1) := by decide +kernel
theorem dX4_peace_30 : decode cX4_peace 30 = .ok (.sipush 200, 3) := by decide +kernel
theorem dX4_peace_33 : decode cX4_peace 33 = .ok (.if_icmp .gt 29, 3) := by decide +kernel
theorem dX4_peace_36 : decode cX4_peace 36 = .ok (.aload_n 0, 1) := by decide +kernel
theorem dX4_peace_37 : decode cX4_peace 37 = .ok (.getfield 19, 3) := by decide +kernel
theorem dX4_peace_40 : decode cX4_peace 40 = .ok (.getfield 48, 3) := by decide +kernel
theorem dX4_peace_43 : decode cX4_peace 43 = .ok (.iload_n 1, 1) := by decide +kernel
theorem dX4_peace_44 : decode cX4_peace 44 = .ok (.if_icmp .gt 5, 3) := by decide +kernel
theorem dX4_peace_47 : decode cX4_peace 47 = .ok (.iload_n 2, 1) := by decide +kernel
theorem dX4_peace_48 : decode cX4_peace 48 = .ok (.ireturn, 1) := by decide +kernel
theorem dX4_peace_49 : decode cX4_peace 49 = .ok (.aload_n 0, 1) := by decide +kernel
theorem dX4_peace_50 : decode cX4_peace 50 = .ok (.getfield 19, 3) := by decide +kernel
theorem dX4_peace_53 : decode cX4_peace 53 = .ok (.invokevirtual 149, 3) := by decide +kernel
theorem dX4_peace_56 : decode cX4_peace 56 = .ok (.iinc 2 1, 3) := by decide +kernel
theorem dX4_peace_59 : decode cX4_peace 59 = .ok (.goto (-30), 3) := by decide +kernel
theorem dX4_peace_62 : decode cX4_peace 62 = .ok (.aload_n 0, 1) := by decide +kernel
theorem dX4_peace_63 : decode cX4_peace 63 = .ok (.iconst 3, 1) := by decide +kernel
theorem dX4_peace_64 : decode cX4_peace 64 = .ok (.invokevirtual 55, 3) := by decide +kernel
theorem dX4_peace_67 : decode cX4_peace 67 = .ok (.ireturn, 1) := by decide +kernel
theorem dX4_deedFor_0 : decode cX4_deedFor 0 = .ok (.iload_n 1, 1) := by decide +kernel
theorem dX4_deedFor_1 : decode cX4_deedFor 1 = .ok (.invokestatic 59, 3) := by decide +kernel
theorem dX4_deedFor_4 : decode cX4_deedFor 4 = .ok (.ifCond .eq 13, 3) := by decide +kernel
theorem dX4_deedFor_7 : decode cX4_deedFor 7 = .ok (.iload_n 2, 1) := by decide +kernel
theorem dX4_deedFor_8 : decode cX4_deedFor 8 = .ok (.iconst 0, 1) := by decide +kernel
theorem dX4_deedFor_9 : decode cX4_deedFor 9 = .ok (.bipush 60, 2) := by decide +kernel
theorem dX4_deedFor_11 : decode cX4_deedFor 11 = .ok (.invokestatic 44, 3) := by decide +kernel
theorem dX4_deedFor_14 : decode cX4_deedFor 14 = .ok (.ifCond .ne 9, 3) := by decide +kernel
theorem dX4_deedFor_17 : decode cX4_deedFor 17 = .ok (.aload_n 0, 1) := by decide +kernel
theorem dX4_deedFor_18 : decode cX4_deedFor 18 = .ok (.iconst 0, 1) := by decide +kernel
theorem dX4_deedFor_19 : decode cX4_deedFor 19 = .ok (.invokevirtual 55, 3) := by decide +kernel
theorem dX4_deedFor_22 : decode cX4_deedFor 22 = .ok (.ireturn, 1) := by decide +kernel
theorem dX4_deedFor_23 : decode cX4_deedFor 23 = .ok (.iconst 0, 1) := by decide +kernel
theorem dX4_deedFor_24 : decode cX4_deedFor 24 = .ok (.istore_n 3, 1) := by decide +kernel
theorem dX4_deedFor_25 : decode cX4_deedFor 25 = .ok (.iconst (-1), 1) := by decide +kernel
theorem dX4_deedFor_26 : decode cX4_deedFor 26 = .ok (.istore 4, 2) := by decide +kernel
theorem dX4_deedFor_28 : decode cX4_deedFor 28 = .ok (.iconst 0, 1) := by decide +kernel
theorem dX4_deedFor_29 : decode cX4_deedFor 29 = .ok (.istore 5, 2) := by decide +kernel
theorem dX4_deedFor_31 : decode cX4_deedFor 31 = .ok (.iload 5, 2) := by decide +kernel
theorem dX4_deedFor_33 : decode cX4_deedFor 33 = .ok (.bipush 12, 2) := by decide +kernel
theorem dX4_deedFor_35 : decode cX4_deedFor 35 = .ok (.if_icmp .ge 62, 3) := by decide +kernel
theorem dX4_deedFor_38 : decode cX4_deedFor 38 = .ok (.aload_n 0, 1) := by decide +kernel
theorem dX4_deedFor_39 : decode cX4_deedFor 39 = .ok (.getfield 19, 3) := by decide +kernel
theorem dX4_deedFor_42 : decode cX4_deedFor 42 = .ok (.aload_n 0, 1) := by decide +kernel
theorem dX4_deedFor_43 : decode cX4_deedFor 43 = .ok (.getfield 10, 3) := by decide +kernel
theorem dX4_deedFor_46 : decode cX4_deedFor 46 = .ok (.invokevirtual 155, 3) := by decide +kernel
theorem dX4_deedFor_49 : decode cX4_deedFor 49 = .ok (.aload_n 0, 1) := by decide +kernel
theorem dX4_deedFor_50 : decode cX4_deedFor 50 = .ok (.getfield 19, 3) := by decide +kernel
theorem dX4_deedFor_53 : decode cX4_deedFor 53 = .ok (.getfield 66, 3) := by decide +kernel
theorem dX4_deedFor_56 : decode cX4_deedFor 56 = .ok (.iload_n 1, 1) := by decide +kernel
theorem dX4_deedFor_57 : decode cX4_deedFor 57 = .ok (.iload 5, 2) := by decide +kernel
theorem dX4_deedFor_59 : decode cX4_deedFor 59 = .ok (.iastore, 1) := by decide +kernel
theorem dX4_deedFor_60 : decode cX4_deedFor 60 = .ok (.aload_n 0, 1) := by decide +kernel
theorem dX4_deedFor_61 : decode cX4_deedFor 61 = .ok (.getfield 19, 3) := by decide +kernel
theorem dX4_deedFor_64 : decode cX4_deedFor 64 = .ok (.iload_n 2, 1) := by decide +kernel
theorem dX4_deedFor_65 : decode cX4_deedFor 65 = .ok (.invokevirtual 115, 3) := by decide +kernel
theorem dX4_deedFor_68 : decode cX4_deedFor 68 = .ok (.aload_n 0, 1) := by decide +kernel
theorem dX4_deedFor_69 : decode cX4_deedFor 69 = .ok (.getfield 19, 3) := by decide +kernel
theorem dX4_deedFor_72 : decode cX4_deedFor 72 = .ok (.invokevirtual 132, 3) := by decide +kernel
theorem dX4_deedFor_75 : decode cX4_deedFor 75 = .ok (.istore 6, 2) := by decide +kernel
theorem dX4_deedFor_77 : decode cX4_deedFor 77 = .ok (.iload 6, 2) := by decide +kernel
theorem dX4_deedFor_79 : decode cX4_deedFor 79 = .ok (.iload 4, 2) := by decide +kernel
theorem dX4_deedFor_81 : decode cX4_deedFor 81 = .ok (.if_icmp .le 10, 3) := by decide +kernel
theorem dX4_deedFor_84 : decode cX4_deedFor 84 = .ok (.iload 6, 2) := by decide +kernel
theorem dX4_deedFor_86 : decode cX4_deedFor 86 = .ok (.istore 4, 2) := by decide +kernel
theorem dX4_deedFor_88 : decode cX4_deedFor 88 = .ok (.iload 5, 2) := by decide +kernel
theorem dX4_deedFor_90 : decode cX4_deedFor 90 = .ok (.istore_n 3, 1) := by decide +kernel
theorem dX4_deedFor_91 : decode cX4_deedFor 91 = .ok (.iinc 5 1, 3) := by decide +kernel
theorem dX4_deedFor_94 : decode cX4_deedFor 94 = .ok (.goto (-63), 3) := by decide +kernel
theorem dX4_deedFor_97 : decode cX4_deedFor 97 = .ok (.iload_n 3, 1) := by decide +kernel
theorem dX4_deedFor_98 : decode cX4_deedFor 98 = .ok (.ireturn, 1) := by decide +kernel
theorem dX4_grudgeFor_0 : decode cX4_grudgeFor 0 = .ok (.aload_n 0, 1) := by decide +kernel
theorem dX4_grudgeFor_1 : decode cX4_grudgeFor 1 = .ok (.iload_n 1, 1) := by decide +kernel
theorem dX4_grudgeFor_2 : decode cX4_grudgeFor 2 = .ok (.invokevirtual 84, 3) := by decide +kernel
theorem dX4_grudgeFor_5 : decode cX4_grudgeFor 5 = .ok (.ifCond .eq 13, 3) := by decide +kernel
theorem dX4_grudgeFor_8 : decode cX4_grudgeFor 8 = .ok (.iload_n 2, 1) := by decide +kernel
theorem dX4_grudgeFor_9 : decode cX4_grudgeFor 9 = .ok (.iconst 0, 1) := by decide +kernel
theorem dX4_grudgeFor_10 : decode cX4_grudgeFor 10 = .ok (.bipush 60, 2) := by decide +kernel
theorem dX4_grudgeFor_12 : decode cX4_grudgeFor 12 = .ok (.invokestatic 44, 3) := by decide +kernel
theorem dX4_grudgeFor_15 : decode cX4_grudgeFor 15 = .ok (.ifCond .ne 9, 3) := by decide +kernel
theorem dX4_grudgeFor_18 : decode cX4_grudgeFor 18 = .ok (.aload_n 0, 1) := by decide +kernel
theorem dX4_grudgeFor_19 : decode cX4_grudgeFor 19 = .ok (.iconst 0, 1) := by decide +kernel
theorem dX4_grudgeFor_20 : decode cX4_grudgeFor 20 = .ok (.invokevirtual 55, 3) := by decide +kernel
theorem dX4_grudgeFor_23 : decode cX4_grudgeFor 23 = .ok (.ireturn, 1) := by decide +kernel
theorem dX4_grudgeFor_24 : decode cX4_grudgeFor 24 = .ok (.iconst 0, 1) := by decide +kernel
theorem dX4_grudgeFor_25 : decode cX4_grudgeFor 25 = .ok (.istore_n 3, 1) := by decide +kernel
theorem dX4_grudgeFor_26 : decode cX4_grudgeFor 26 = .ok (.iload_n 3, 1) := by decide +kernel
theorem dX4_grudgeFor_27 : decode cX4_grudgeFor 27 = .ok (.bipush 99, 2) := by decide +kernel
theorem dX4_grudgeFor_29 : decode cX4_grudgeFor 29 = .ok (.if_icmp .gt 54, 3) := by decide +kernel
theorem dX4_grudgeFor_32 : decode cX4_grudgeFor 32 = .ok (.aload_n 0, 1) := by decide +kernel
theorem dX4_grudgeFor_33 : decode cX4_grudgeFor 33 = .ok (.getfield 19, 3) := by decide +kernel
theorem dX4_grudgeFor_36 : decode cX4_grudgeFor 36 = .ok (.aload_n 0, 1) := by decide +kernel
theorem dX4_grudgeFor_37 : decode cX4_grudgeFor 37 = .ok (.getfield 10, 3) := by decide +kernel
theorem dX4_grudgeFor_40 : decode cX4_grudgeFor 40 = .ok (.iload_n 1, 1) := by decide +kernel
theorem dX4_grudgeFor_41 : decode cX4_grudgeFor 41 = .ok (.invokevirtual 138, 3) := by decide +kernel
theorem dX4_grudgeFor_44 : decode cX4_grudgeFor 44 = .ok (.aload_n 0, 1) := by decide +kernel
theorem dX4_grudgeFor_45 : decode cX4_grudgeFor 45 = .ok (.getfield 19, 3) := by decide +kernel
theorem dX4_grudgeFor_48 : decode cX4_grudgeFor 48 = .ok (.iload_n 3, 1) := by decide +kernel
theorem dX4_grudgeFor_49 : decode cX4_grudgeFor 49 = .ok (.putfield 48, 3) := by decide +kernel
theorem dX4_grudgeFor_52 : decode cX4_grudgeFor 52 = .ok (.aload_n 0, 1) := by decide +kernel
theorem dX4_grudgeFor_53 : decode cX4_grudgeFor 53 = .ok (.getfield 19, 3) := by decide +kernel
theorem dX4_grudgeFor_56 : decode cX4_grudgeFor 56 = .ok (.iload_n 2, 1) := by decide +kernel
theorem dX4_grudgeFor_57 : decode cX4_grudgeFor 57 = .ok (.invokevirtual 115, 3) := by decide +kernel
theorem dX4_grudgeFor_60 : decode cX4_grudgeFor 60 = .ok (.aload_n 0, 1) := by decide +kernel
theorem dX4_grudgeFor_61 : decode cX4_grudgeFor 61 = .ok (.getfield 19, 3) := by decide +kernel
theorem dX4_grudgeFor_64 : decode cX4_grudgeFor 64 = .ok (.getfield 94, 3) := by decide +kernel
theorem dX4_grudgeFor_67 : decode cX4_grudgeFor 67 = .ok (.iconst 0, 1) := by decide +kernel
theorem dX4_grudgeFor_68 : decode cX4_grudgeFor 68 = .ok (.aaload, 1) := by decide +kernel
theorem dX4_grudgeFor_69 : decode cX4_grudgeFor 69 = .ok (.getfield 146, 3) := by decide +kernel
theorem dX4_grudgeFor_72 : decode cX4_grudgeFor 72 = .ok (.ifCond .ne 5, 3) := by decide +kernel
theorem dX4_grudgeFor_75 : decode cX4_grudgeFor 75 = .ok (.iload_n 3, 1) := by decide +kernel
theorem dX4_grudgeFor_76 : decode cX4_grudgeFor 76 = .ok (.ireturn, 1) := by decide +kernel
theorem dX4_grudgeFor_77 : decode cX4_grudgeFor 77 = .ok (.iinc 3 1, 3) := by decide +kernel
theorem dX4_grudgeFor_80 : decode cX4_grudgeFor 80 = .ok (.goto (-54), 3) := by decide +kernel
theorem dX4_grudgeFor_83 : decode cX4_grudgeFor 83 = .ok (.aload_n 0, 1) := by decide +kernel
theorem dX4_grudgeFor_84 : decode cX4_grudgeFor 84 = .ok (.iconst 3, 1) := by decide +kernel
theorem dX4_grudgeFor_85 : decode cX4_grudgeFor 85 = .ok (.invokevirtual 55, 3) := by decide +kernel
theorem dX4_grudgeFor_88 : decode cX4_grudgeFor 88 = .ok (.ireturn, 1) := by decide +kernel
theorem dX4_kindFor_0 : decode cX4_kindFor 0 = .ok (.aload_n 0, 1) := by decide +kernel
theorem dX4_kindFor_1 : decode cX4_kindFor 1 = .ok (.iload_n 1, 1) := by decide +kernel
theorem dX4_kindFor_2 : decode cX4_kindFor 2 = .ok (.invokevirtual 84, 3) := by decide +kernel
theorem dX4_kindFor_5 : decode cX4_kindFor 5 = .ok (.ifCond .eq 13, 3) := by decide +kernel
theorem dX4_kindFor_8 : decode cX4_kindFor 8 = .ok (.iload_n 2, 1) := by decide +kernel
theorem dX4_kindFor_9 : decode cX4_kindFor 9 = .ok (.iconst 0, 1) := by decide +kernel
theorem dX4_kindFor_10 : decode cX4_kindFor 10 = .ok (.bipush 60, 2) := by decide +kernel
theorem dX4_kindFor_12 : decode cX4_kindFor 12 = .ok (.invokestatic 44, 3) := by decide +kernel
theorem dX4_kindFor_15 : decode cX4_kindFor 15 = .ok (.ifCond .ne 9, 3) := by decide +kernel
theorem dX4_kindFor_18 : decode cX4_kindFor 18 = .ok (.aload_n 0, 1) := by decide +kernel
theorem dX4_kindFor_19 : decode cX4_kindFor 19 = .ok (.iconst 0, 1) := by decide +kernel
theorem dX4_kindFor_20 : decode cX4_kindFor 20 = .ok (.invokevirtual 55, 3) := by decide +kernel
theorem dX4_kindFor_23 : decode cX4_kindFor 23 = .ok (.ireturn, 1) := by decide +kernel
theorem dX4_kindFor_24 : decode cX4_kindFor 24 = .ok (.iconst 0, 1) := by decide +kernel
theorem dX4_kindFor_25 : decode cX4_kindFor 25 = .ok (.istore_n 3, 1) := by decide +kernel
theorem dX4_kindFor_26 : decode cX4_kindFor 26 = .ok (.iconst (-1), 1) := by decide +kernel
theorem dX4_kindFor_27 : decode cX4_kindFor 27 = .ok (.istore 4, 2) := by decide +kernel
theorem dX4_kindFor_29 : decode cX4_kindFor 29 = .ok (.iconst 0, 1) := by decide +kernel
theorem dX4_kindFor_30 : decode cX4_kindFor 30 = .ok (.istore 5, 2) := by decide +kernel
theorem dX4_kindFor_32 : decode cX4_kindFor 32 = .ok (.iload 5, 2) := by decide +kernel
theorem dX4_kindFor_34 : decode cX4_kindFor 34 = .ok (.bipush 7, 2) := by decide +kernel
theorem dX4_kindFor_36 : decode cX4_kindFor 36 = .ok (.if_icmp .ge 67, 3) := by decide +kernel
theorem dX4_kindFor_39 : decode cX4_kindFor 39 = .ok (.aload_n 0, 1) := by decide +kernel
theorem dX4_kindFor_40 : decode cX4_kindFor 40 = .ok (.getfield 19, 3) := by decide +kernel
theorem dX4_kindFor_43 : decode cX4_kindFor 43 = .ok (.aload_n 0, 1) := by decide +kernel
theorem dX4_kindFor_44 : decode cX4_kindFor 44 = .ok (.getfield 10, 3) := by decide +kernel
theorem dX4_kindFor_47 : decode cX4_kindFor 47 = .ok (.iload_n 1, 1) := by decide +kernel
theorem dX4_kindFor_48 : decode cX4_kindFor 48 = .ok (.invokevirtual 138, 3) := by decide +kernel
theorem dX4_kindFor_51 : decode cX4_kindFor 51 = .ok (.aload_n 0, 1) := by decide +kernel
theorem dX4_kindFor_52 : decode cX4_kindFor 52 = .ok (.getfield 19, 3) := by decide +kernel
theorem dX4_kindFor_55 : decode cX4_kindFor 55 = .ok (.getfield 94, 3) := by decide +kernel
theorem dX4_kindFor_58 : decode cX4_kindFor 58 = .ok (.iconst 0, 1) := by decide +kernel
theorem dX4_kindFor_59 : decode cX4_kindFor 59 = .ok (.aaload, 1) := by decide +kernel
theorem dX4_kindFor_60 : decode cX4_kindFor 60 = .ok (.iload 5, 2) := by decide +kernel
theorem dX4_kindFor_62 : decode cX4_kindFor 62 = .ok (.putfield 158, 3) := by decide +kernel
theorem dX4_kindFor_65 : decode cX4_kindFor 65 = .ok (.aload_n 0, 1) := by decide +kernel
theorem dX4_kindFor_66 : decode cX4_kindFor 66 = .ok (.getfield 19, 3) := by decide +kernel
theorem dX4_kindFor_69 : decode cX4_kindFor 69 = .ok (.iload_n 2, 1) := by decide +kernel
theorem dX4_kindFor_70 : decode cX4_kindFor 70 = .ok (.invokevirtual 115, 3) := by decide +kernel
theorem dX4_kindFor_73 : decode cX4_kindFor 73 = .ok (.aload_n 0, 1) := by decide +kernel
theorem dX4_kindFor_74 : decode cX4_kindFor 74 = .ok (.getfield 19, 3) := by decide +kernel
theorem dX4_kindFor_77 : decode cX4_kindFor 77 = .ok (.iconst 0, 1) := by decide +kernel
theorem dX4_kindFor_78 : decode cX4_kindFor 78 = .ok (.invokevirtual 152, 3) := by decide +kernel
theorem dX4_kindFor_81 : decode cX4_kindFor 81 = .ok (.istore 6, 2) := by decide +kernel
theorem dX4_kindFor_83 : decode cX4_kindFor 83 = .ok (.iload 6, 2) := by decide +kernel
theorem dX4_kindFor_85 : decode cX4_kindFor 85 = .ok (.iload 4, 2) := by decide +kernel
theorem dX4_kindFor_87 : decode cX4_kindFor 87 = .ok (.if_icmp .le 10, 3) := by decide +kernel
theorem dX4_kindFor_90 : decode cX4_kindFor 90 = .ok (.iload 6, 2) := by decide +kernel
theorem dX4_kindFor_92 : decode cX4_kindFor 92 = .ok (.istore 4, 2) := by decide +kernel
theorem dX4_kindFor_94 : decode cX4_kindFor 94 = .ok (.iload 5, 2) := by decide +kernel
theorem dX4_kindFor_96 : decode cX4_kindFor 96 = .ok (.istore_n 3, 1) := by decide +kernel
theorem dX4_kindFor_97 : decode cX4_kindFor 97 = .ok (.iinc 5 1, 3) := by decide +kernel
theorem dX4_kindFor_100 : decode cX4_kindFor 100 = .ok (.goto (-68), 3) := by decide +kernel
theorem dX4_kindFor_103 : decode cX4_kindFor 103 = .ok (.iload_n 3, 1) := by decide +kernel
theorem dX4_kindFor_104 : decode cX4_kindFor 104 = .ok (.ireturn, 1) := by decide +kernel
theorem dX4_best_0 : decode cX4_best 0 = .ok (.aload_n 0, 1) := by decide +kernel
theorem dX4_best_1 : decode cX4_best 1 = .ok (.iload_n 1, 1) := by decide +kernel
theorem dX4_best_2 : decode cX4_best 2 = .ok (.invokevirtual 84, 3) := by decide +kernel
theorem dX4_best_5 : decode cX4_best 5 = .ok (.ifCond .ne 9, 3) := by decide +kernel
theorem dX4_best_8 : decode cX4_best 8 = .ok (.aload_n 0, 1) := by decide +kernel
theorem dX4_best_9 : decode cX4_best 9 = .ok (.iconst 0, 1) := by decide +kernel
theorem dX4_best_10 : decode cX4_best 10 = .ok (.invokevirtual 55, 3) := by decide +kernel
theorem dX4_best_13 : decode cX4_best 13 = .ok (.ireturn, 1) := by decide +kernel
theorem dX4_best_14 : decode cX4_best 14 = .ok (.aload_n 0, 1) := by decide +kernel
theorem dX4_best_15 : decode cX4_best 15 = .ok (.getfield 19, 3) := by decide +kernel
theorem dX4_best_18 : decode cX4_best 18 = .ok (.aload_n 0, 1) := by decide +kernel
theorem dX4_best_19 : decode cX4_best 19 = .ok (.getfield 10, 3) := by decide +kernel
theorem dX4_best_22 : decode cX4_best 22 = .ok (.iload_n 1, 1) := by decide +kernel
theorem dX4_best_23 : decode cX4_best 23 = .ok (.invokevirtual 138, 3) := by decide +kernel
theorem dX4_best_26 : decode cX4_best 26 = .ok (.iconst 0, 1) := by decide +kernel
theorem dX4_best_27 : decode cX4_best 27 = .ok (.istore_n 2, 1) := by decide +kernel
theorem dX4_best_28 : decode cX4_best 28 = .ok (.aload_n 0, 1) := by decide +kernel
theorem dX4_best_29 : decode cX4_best 29 = .ok (.getfield 19, 3) := by decide +kernel
theorem dX4_best_32 : decode cX4_best 32 = .ok (.iconst 0, 1) := by decide +kernel
theorem dX4_best_33 : decode cX4_best 33 = .ok (.invokevirtual 152, 3) := by decide +kernel
theorem dX4_best_36 : decode cX4_best 36 = .ok (.istore_n 3, 1) := by decide +kernel
theorem dX4_best_37 : decode cX4_best 37 = .ok (.iconst 1, 1) := by decide +kernel
theorem dX4_best_38 : decode cX4_best 38 = .ok (.istore 4, 2) := by decide +kernel
theorem dX4_best_40 : decode cX4_best 40 = .ok (.iload 4, 2) := by decide +kernel
theorem dX4_best_42 : decode cX4_best 42 = .ok (.bipush 60, 2) := by decide +kernel
theorem dX4_best_44 : decode cX4_best 44 = .ok (.if_icmp .gt 38, 3) := by decide +kernel
theorem dX4_best_47 : decode cX4_best 47 = .ok (.aload_n 0, 1) := by decide +kernel
theorem dX4_best_48 : decode cX4_best 48 = .ok (.getfield 19, 3) := by decide +kernel
theorem dX4_best_51 : decode cX4_best 51 = .ok (.invokevirtual 149, 3) := by decide +kernel
theorem dX4_best_54 : decode cX4_best 54 = .ok (.aload_n 0, 1) := by decide +kernel
theorem dX4_best_55 : decode cX4_best 55 = .ok (.getfield 19, 3) := by decide +kernel
theorem dX4_best_58 : decode cX4_best 58 = .ok (.iconst 0, 1) := by decide +kernel
theorem dX4_best_59 : decode cX4_best 59 = .ok (.invokevirtual 152, 3) := by decide +kernel
theorem dX4_best_62 : decode cX4_best 62 = .ok (.istore 5, 2) := by decide +kernel
theorem dX4_best_64 : decode cX4_best 64 = .ok (.iload 5, 2) := by decide +kernel
theorem dX4_best_66 : decode cX4_best 66 = .ok (.iload_n 3, 1) := by decide +kernel
theorem dX4_best_67 : decode cX4_best 67 = .ok (.if_icmp .le 9, 3) := by decide +kernel
theorem dX4_best_70 : decode cX4_best 70 = .ok (.iload 5, 2) := by decide +kernel
theorem dX4_best_72 : decode cX4_best 72 = .ok (.istore_n 3, 1) := by decide +kernel
theorem dX4_best_73 : decode cX4_best 73 = .ok (.iload 4, 2) := by decide +kernel
theorem dX4_best_75 : decode cX4_best 75 = .ok (.istore_n 2, 1) := by decide +kernel
theorem dX4_best_76 : decode cX4_best 76 = .ok (.iinc 4 1, 3) := by decide +kernel
theorem dX4_best_79 : decode cX4_best 79 = .ok (.goto (-39), 3) := by decide +kernel
theorem dX4_best_82 : decode cX4_best 82 = .ok (.iload_n 2, 1) := by decide +kernel
theorem dX4_best_83 : decode cX4_best 83 = .ok (.ireturn, 1) := by decide +kernel
theorem dX4_takeOff_0 : decode cX4_takeOff 0 = .ok (.iload_n 1, 1) := by decide +kernel
theorem dX4_takeOff_1 : decode cX4_takeOff 1 = .ok (.iconst 0, 1) := by decide +kernel
theorem dX4_takeOff_2 : decode cX4_takeOff 2 = .ok (.bipush 20, 2) := by decide +kernel
theorem dX4_takeOff_4 : decode cX4_takeOff 4 = .ok (.invokestatic 44, 3) := by decide +kernel
theorem dX4_takeOff_7 : decode cX4_takeOff 7 = .ok (.ifCond .ne 9, 3) := by decide +kernel
theorem dX4_takeOff_10 : decode cX4_takeOff 10 = .ok (.aload_n 0, 1) := by decide +kernel
theorem dX4_takeOff_11 : decode cX4_takeOff 11 = .ok (.iconst 0, 1) := by decide +kernel
theorem dX4_takeOff_12 : decode cX4_takeOff 12 = .ok (.invokevirtual 55, 3) := by decide +kernel
theorem dX4_takeOff_15 : decode cX4_takeOff 15 = .ok (.ireturn, 1) := by decide +kernel
theorem dX4_takeOff_16 : decode cX4_takeOff 16 = .ok (.aload_n 0, 1) := by decide +kernel
theorem dX4_takeOff_17 : decode cX4_takeOff 17 = .ok (.getfield 19, 3) := by decide +kernel
theorem dX4_takeOff_20 : decode cX4_takeOff 20 = .ok (.aload_n 0, 1) := by decide +kernel
theorem dX4_takeOff_21 : decode cX4_takeOff 21 = .ok (.getfield 10, 3) := by decide +kernel
theorem dX4_takeOff_24 : decode cX4_takeOff 24 = .ok (.invokevirtual 155, 3) := by decide +kernel
theorem dX4_takeOff_27 : decode cX4_takeOff 27 = .ok (.aload_n 0, 1) := by decide +kernel
theorem dX4_takeOff_28 : decode cX4_takeOff 28 = .ok (.getfield 19, 3) := by decide +kernel
theorem dX4_takeOff_31 : decode cX4_takeOff 31 = .ok (.iload_n 1, 1) := by decide +kernel
theorem dX4_takeOff_32 : decode cX4_takeOff 32 = .ok (.invokevirtual 115, 3) := by decide +kernel
theorem dX4_takeOff_35 : decode cX4_takeOff 35 = .ok (.aload_n 0, 1) := by decide +kernel
theorem dX4_takeOff_36 : decode cX4_takeOff 36 = .ok (.getfield 19, 3) := by decide +kernel
theorem dX4_takeOff_39 : decode cX4_takeOff 39 = .ok (.invokevirtual 122, 3) := by decide +kernel
theorem dX4_takeOff_42 : decode cX4_takeOff 42 = .ok (.aload_n 0, 1) := by decide +kernel
theorem dX4_takeOff_43 : decode cX4_takeOff 43 = .ok (.getfield 10, 3) := by decide +kernel
theorem dX4_takeOff_46 : decode cX4_takeOff 46 = .ok (.invokevirtual 122, 3) := by decide +kernel
theorem dX4_takeOff_49 : decode cX4_takeOff 49 = .ok (.iconst (-1), 1) := by decide +kernel
theorem dX4_takeOff_50 : decode cX4_takeOff 50 = .ok (.ixor, 1) := by decide +kernel
theorem dX4_takeOff_51 : decode cX4_takeOff 51 = .ok (.iand, 1) := by decide +kernel
theorem dX4_takeOff_52 : decode cX4_takeOff 52 = .ok (.ireturn, 1) := by decide +kernel
theorem dX4_fits_0 : decode cX4_fits 0 = .ok (.aload_n 0, 1) := by decide +kernel
theorem dX4_fits_1 : decode cX4_fits 1 = .ok (.iload_n 1, 1) := by decide +kernel
theorem dX4_fits_2 : decode cX4_fits 2 = .ok (.iload_n 2, 1) := by decide +kernel
theorem dX4_fits_3 : decode cX4_fits 3 = .ok (.invokevirtual 161, 3) := by decide +kernel
theorem dX4_fits_6 : decode cX4_fits 6 = .ok (.istore_n 3, 1) := by decide +kernel
theorem dX4_fits_7 : decode cX4_fits 7 = .ok (.iload_n 3, 1) := by decide +kernel
theorem dX4_fits_8 : decode cX4_fits 8 = .ok (.iconst (-1), 1) := by decide +kernel
theorem dX4_fits_9 : decode cX4_fits 9 = .ok (.if_icmp .eq 9, 3) := by decide +kernel
theorem dX4_fits_12 : decode cX4_fits 12 = .ok (.aload_n 0, 1) := by decide +kernel
theorem dX4_fits_13 : decode cX4_fits 13 = .ok (.iload_n 3, 1) := by decide +kernel
theorem dX4_fits_14 : decode cX4_fits 14 = .ok (.invokevirtual 55, 3) := by decide +kernel
theorem dX4_fits_17 : decode cX4_fits 17 = .ok (.ireturn, 1) := by decide +kernel
theorem dX4_fits_18 : decode cX4_fits 18 = .ok (.iconst 0, 1) := by decide +kernel
theorem dX4_fits_19 : decode cX4_fits 19 = .ok (.istore 4, 2) := by decide +kernel
theorem dX4_fits_21 : decode cX4_fits 21 = .ok (.iconst 0, 1) := by decide +kernel
theorem dX4_fits_22 : decode cX4_fits 22 = .ok (.istore 5, 2) := by decide +kernel
theorem dX4_fits_24 : decode cX4_fits 24 = .ok (.iload 5, 2) := by decide +kernel
theorem dX4_fits_26 : decode cX4_fits 26 = .ok (.bipush 99, 2) := by decide +kernel
theorem dX4_fits_28 : decode cX4_fits 28 = .ok (.if_icmp .gt 46, 3) := by decide +kernel
theorem dX4_fits_31 : decode cX4_fits 31 = .ok (.aload_n 0, 1) := by decide +kernel
theorem dX4_fits_32 : decode cX4_fits 32 = .ok (.getfield 19, 3) := by decide +kernel
theorem dX4_fits_35 : decode cX4_fits 35 = .ok (.aload_n 0, 1) := by decide +kernel
theorem dX4_fits_36 : decode cX4_fits 36 = .ok (.getfield 10, 3) := by decide +kernel
theorem dX4_fits_39 : decode cX4_fits 39 = .ok (.iload_n 2, 1) := by decide +kernel
theorem dX4_fits_40 : decode cX4_fits 40 = .ok (.invokevirtual 138, 3) := by decide +kernel
theorem dX4_fits_43 : decode cX4_fits 43 = .ok (.aload_n 0, 1) := by decide +kernel
theorem dX4_fits_44 : decode cX4_fits 44 = .ok (.getfield 19, 3) := by decide +kernel
theorem dX4_fits_47 : decode cX4_fits 47 = .ok (.iload 5, 2) := by decide +kernel
theorem dX4_fits_49 : decode cX4_fits 49 = .ok (.putfield 48, 3) := by decide +kernel
theorem dX4_fits_52 : decode cX4_fits 52 = .ok (.aload_n 0, 1) := by decide +kernel
theorem dX4_fits_53 : decode cX4_fits 53 = .ok (.aload_n 0, 1) := by decide +kernel
theorem dX4_fits_54 : decode cX4_fits 54 = .ok (.getfield 31, 3) := by decide +kernel
theorem dX4_fits_57 : decode cX4_fits 57 = .ok (.iload_n 1, 1) := by decide +kernel
theorem dX4_fits_58 : decode cX4_fits 58 = .ok (.aaload, 1) := by decide +kernel
theorem dX4_fits_59 : decode cX4_fits 59 = .ok (.invokevirtual 164, 3) := by decide +kernel
theorem dX4_fits_62 : decode cX4_fits 62 = .ok (.ifCond .eq 6, 3) := by decide +kernel
theorem dX4_fits_65 : decode cX4_fits 65 = .ok (.iinc 4 1, 3) := by decide +kernel
theorem dX4_fits_68 : decode cX4_fits 68 = .ok (.iinc 5 1, 3) := by decide +kernel
theorem dX4_fits_71 : decode cX4_fits 71 = .ok (.goto (-47), 3) := by decide +kernel
theorem dX4_fits_74 : decode cX4_fits 74 = .ok (.iload 4, 2) := by decide +kernel
theorem dX4_fits_76 : decode cX4_fits 76 = .ok (.ireturn, 1) := by decide +kernel
theorem dX4_kinds_0 : decode cX4_kinds 0 = .ok (.aload_n 0, 1) := by decide +kernel
theorem dX4_kinds_1 : decode cX4_kinds 1 = .ok (.iload_n 1, 1) := by decide +kernel
theorem dX4_kinds_2 : decode cX4_kinds 2 = .ok (.iload_n 2, 1) := by decide +kernel
theorem dX4_kinds_3 : decode cX4_kinds 3 = .ok (.invokevirtual 161, 3) := by decide +kernel
theorem dX4_kinds_6 : decode cX4_kinds 6 = .ok (.istore_n 3, 1) := by decide +kernel
theorem dX4_kinds_7 : decode cX4_kinds 7 = .ok (.iload_n 3, 1) := by decide +kernel
theorem dX4_kinds_8 : decode cX4_kinds 8 = .ok (.iconst (-1), 1) := by decide +kernel
theorem dX4_kinds_9 : decode cX4_kinds 9 = .ok (.if_icmp .eq 9, 3) := by decide +kernel
theorem dX4_kinds_12 : decode cX4_kinds 12 = .ok (.aload_n 0, 1) := by decide +kernel
theorem dX4_kinds_13 : decode cX4_kinds 13 = .ok (.iload_n 3, 1) := by decide +kernel
theorem dX4_kinds_14 : decode cX4_kinds 14 = .ok (.invokevirtual 55, 3) := by decide +kernel
theorem dX4_kinds_17 : decode cX4_kinds 17 = .ok (.ireturn, 1) := by decide +kernel
theorem dX4_kinds_18 : decode cX4_kinds 18 = .ok (.iconst 0, 1) := by decide +kernel
theorem dX4_kinds_19 : decode cX4_kinds 19 = .ok (.istore 4, 2) := by decide +kernel
theorem dX4_kinds_21 : decode cX4_kinds 21 = .ok (.iconst 0, 1) := by decide +kernel
theorem dX4_kinds_22 : decode cX4_kinds 22 = .ok (.istore 5, 2) := by decide +kernel
theorem dX4_kinds_24 : decode cX4_kinds 24 = .ok (.iload 5, 2) := by decide +kernel
theorem dX4_kinds_26 : decode cX4_kinds 26 = .ok (.bipush 7, 2) := by decide +kernel
theorem dX4_kinds_28 : decode cX4_kinds 28 = .ok (.if_icmp .ge 57, 3) := by decide +kernel
theorem dX4_kinds_31 : decode cX4_kinds 31 = .ok (.aload_n 0, 1) := by decide +kernel
theorem dX4_kinds_32 : decode cX4_kinds 32 = .ok (.getfield 19, 3) := by decide +kernel
theorem dX4_kinds_35 : decode cX4_kinds 35 = .ok (.aload_n 0, 1) := by decide +kernel
theorem dX4_kinds_36 : decode cX4_kinds 36 = .ok (.getfield 10, 3) := by decide +kernel
theorem dX4_kinds_39 : decode cX4_kinds 39 = .ok (.iload_n 2, 1) := by decide +kernel
theorem dX4_kinds_40 : decode cX4_kinds 40 = .ok (.invokevirtual 138, 3) := by decide +kernel
theorem dX4_kinds_43 : decode cX4_kinds 43 = .ok (.aload_n 0, 1) := by decide +kernel
theorem dX4_kinds_44 : decode cX4_kinds 44 = .ok (.getfield 19, 3) := by decide +kernel
theorem dX4_kinds_47 : decode cX4_kinds 47 = .ok (.getfield 94, 3) := by decide +kernel
theorem dX4_kinds_50 : decode cX4_kinds 50 = .ok (.iconst 0, 1) := by decide +kernel
theorem dX4_kinds_51 : decode cX4_kinds 51 = .ok (.aaload, 1) := by decide +kernel
theorem dX4_kinds_52 : decode cX4_kinds 52 = .ok (.iload 5, 2) := by decide +kernel
theorem dX4_kinds_54 : decode cX4_kinds 54 = .ok (.putfield 158, 3) := by decide +kernel
theorem dX4_kinds_57 : decode cX4_kinds 57 = .ok (.aload_n 0, 1) := by decide +kernel
theorem dX4_kinds_58 : decode cX4_kinds 58 = .ok (.aload_n 0, 1) := by decide +kernel
theorem dX4_kinds_59 : decode cX4_kinds 59 = .ok (.getfield 31, 3) := by decide +kernel
theorem dX4_kinds_62 : decode cX4_kinds 62 = .ok (.iload_n 1, 1) := by decide +kernel
theorem dX4_kinds_63 : decode cX4_kinds 63 = .ok (.aaload, 1) := by decide +kernel
theorem dX4_kinds_64 : decode cX4_kinds 64 = .ok (.invokevirtual 164, 3) := by decide +kernel
theorem dX4_kinds_67 : decode cX4_kinds 67 = .ok (.ifCond .eq 12, 3) := by decide +kernel
theorem dX4_kinds_70 : decode cX4_kinds 70 = .ok (.iload 4, 2) := by decide +kernel
theorem dX4_kinds_72 : decode cX4_kinds 72 = .ok (.iconst 1, 1) := by decide +kernel
theorem dX4_kinds_73 : decode cX4_kinds 73 = .ok (.iload 5, 2) := by decide +kernel
theorem dX4_kinds_75 : decode cX4_kinds 75 = .ok (.ishl, 1) := by decide +kernel
theorem dX4_kinds_76 : decode cX4_kinds 76 = .ok (.ior, 1) := by decide +kernel
theorem dX4_kinds_77 : decode cX4_kinds 77 = .ok (.istore 4, 2) := by decide +kernel
theorem dX4_kinds_79 : decode cX4_kinds 79 = .ok (.iinc 5 1, 3) := by decide +kernel
theorem dX4_kinds_82 : decode cX4_kinds 82 = .ok (.goto (-58), 3) := by decide +kernel
theorem dX4_kinds_85 : decode cX4_kinds 85 = .ok (.iload 4, 2) := by decide +kernel
theorem dX4_kinds_87 : decode cX4_kinds 87 = .ok (.ireturn, 1) := by decide +kernel
theorem dX4_service_0 : decode cX4_service 0 = .ok (.iload_n 1, 1) := by decide +kernel
theorem dX4_service_1 : decode cX4_service 1 = .ok (.iconst 1, 1) := by decide +kernel
theorem dX4_service_2 : decode cX4_service 2 = .ok (.bipush 20, 2) := by decide +kernel
theorem dX4_service_4 : decode cX4_service 4 = .ok (.invokestatic 44, 3) := by decide +kernel
theorem dX4_service_7 : decode cX4_service 7 = .ok (.ifCond .ne 9, 3) := by decide +kernel
theorem dX4_service_10 : decode cX4_service 10 = .ok (.aload_n 0, 1) := by decide +kernel
theorem dX4_service_11 : decode cX4_service 11 = .ok (.iconst 0, 1) := by decide +kernel
theorem dX4_service_12 : decode cX4_service 12 = .ok (.invokevirtual 55, 3) := by decide +kernel
theorem dX4_service_15 : decode cX4_service 15 = .ok (.ireturn, 1) := by decide +kernel
theorem dX4_service_16 : decode cX4_service 16 = .ok (.aload_n 0, 1) := by decide +kernel
theorem dX4_service_17 : decode cX4_service 17 = .ok (.getfield 10, 3) := by decide +kernel
theorem dX4_service_20 : decode cX4_service 20 = .ok (.getfield 111, 3) := by decide +kernel
theorem dX4_service_23 : decode cX4_service 23 = .ok (.iload_n 1, 1) := by decide +kernel
theorem dX4_service_24 : decode cX4_service 24 = .ok (.iadd, 1) := by decide +kernel
theorem dX4_service_25 : decode cX4_service 25 = .ok (.ldc 114, 2) := by decide +kernel
theorem dX4_service_27 : decode cX4_service 27 = .ok (.if_icmp .le 9, 3) := by decide +kernel
theorem dX4_service_30 : decode cX4_service 30 = .ok (.aload_n 0, 1) := by decide +kernel
theorem dX4_service_31 : decode cX4_service 31 = .ok (.iconst 4, 1) := by decide +kernel
theorem dX4_service_32 : decode cX4_service 32 = .ok (.invokevirtual 55, 3) := by decide +kernel
theorem dX4_service_35 : decode cX4_service 35 = .ok (.ireturn, 1) := by decide +kernel
theorem dX4_service_36 : decode cX4_service 36 = .ok (.iconst 0, 1) := by decide +kernel
theorem dX4_service_37 : decode cX4_service 37 = .ok (.istore_n 2, 1) := by decide +kernel
theorem dX4_service_38 : decode cX4_service 38 = .ok (.iload_n 2, 1) := by decide +kernel
theorem dX4_service_39 : decode cX4_service 39 = .ok (.iload_n 1, 1) := by decide +kernel
theorem dX4_service_40 : decode cX4_service 40 = .ok (.if_icmp .ge 16, 3) := by decide +kernel
theorem dX4_service_43 : decode cX4_service 43 = .ok (.aload_n 0, 1) := by decide +kernel
theorem dX4_service_44 : decode cX4_service 44 = .ok (.getfield 10, 3) := by decide +kernel
theorem dX4_service_47 : decode cX4_service 47 = .ok (.invokevirtual 168, 3) := by decide +kernel
theorem dX4_service_50 : decode cX4_service 50 = .ok (.iinc 2 1, 3) := by decide +kernel
theorem dX4_service_53 : decode cX4_service 53 = .ok (.goto (-15), 3) := by decide +kernel
theorem dX4_service_56 : decode cX4_service 56 = .ok (.aload_n 0, 1) := by decide +kernel
theorem dX4_service_57 : decode cX4_service 57 = .ok (.getfield 10, 3) := by decide +kernel
theorem dX4_service_60 : decode cX4_service 60 = .ok (.getfield 119, 3) := by decide +kernel
theorem dX4_service_63 : decode cX4_service 63 = .ok (.ireturn, 1) := by decide +kernel
theorem dX4_odds_0 : decode cX4_odds 0 = .ok (.aload_n 0, 1) := by decide +kernel
theorem dX4_odds_1 : decode cX4_odds 1 = .ok (.iload_n 1, 1) := by decide +kernel
theorem dX4_odds_2 : decode cX4_odds 2 = .ok (.invokevirtual 84, 3) := by decide +kernel
theorem dX4_odds_5 : decode cX4_odds 5 = .ok (.ifCond .eq 22, 3) := by decide +kernel
theorem dX4_odds_8 : decode cX4_odds 8 = .ok (.iload_n 2, 1) := by decide +kernel
theorem dX4_odds_9 : decode cX4_odds 9 = .ok (.iconst 0, 1) := by decide +kernel
theorem dX4_odds_10 : decode cX4_odds 10 = .ok (.bipush 17, 2) := by decide +kernel
theorem dX4_odds_12 : decode cX4_odds 12 = .ok (.invokestatic 44, 3) := by decide +kernel
theorem dX4_odds_15 : decode cX4_odds 15 = .ok (.ifCond .eq 12, 3) := by decide +kernel
theorem dX4_odds_18 : decode cX4_odds 18 = .ok (.iload_n 3, 1) := by decide +kernel
theorem dX4_odds_19 : decode cX4_odds 19 = .ok (.iconst 0, 1) := by decide +kernel
theorem dX4_odds_20 : decode cX4_odds 20 = .ok (.iconst 1, 1) := by decide +kernel
theorem dX4_odds_21 : decode cX4_odds 21 = .ok (.invokestatic 44, 3) := by decide +kernel
theorem dX4_odds_24 : decode cX4_odds 24 = .ok (.ifCond .ne 10, 3) := by decide +kernel
theorem dX4_odds_27 : decode cX4_odds 27 = .ok (.aload_n 0, 1) := by decide +kernel
theorem dX4_odds_28 : decode cX4_odds 28 = .ok (.iconst 0, 1) := by decide +kernel
theorem dX4_odds_29 : decode cX4_odds 29 = .ok (.invokevirtual 55, 3) := by decide +kernel
theorem dX4_odds_32 : decode cX4_odds 32 = .ok (.i2l, 1) := by decide +kernel
theorem dX4_odds_33 : decode cX4_odds 33 = .ok (.lreturn, 1) := by decide +kernel
theorem dX4_odds_34 : decode cX4_odds 34 = .ok (.aload_n 0, 1) := by decide +kernel
theorem dX4_odds_35 : decode cX4_odds 35 = .ok (.getfield 10, 3) := by decide +kernel
theorem dX4_odds_38 : decode cX4_odds 38 = .ok (.iload_n 1, 1) := by decide +kernel
theorem dX4_odds_39 : decode cX4_odds 39 = .ok (.invokevirtual 171, 3) := by decide +kernel
theorem dX4_odds_42 : decode cX4_odds 42 = .ok (.istore 4, 2) := by decide +kernel
theorem dX4_odds_44 : decode cX4_odds 44 = .ok (.iload 4, 2) := by decide +kernel
theorem dX4_odds_46 : decode cX4_odds 46 = .ok (.bipush 12, 2) := by decide +kernel
theorem dX4_odds_48 : decode cX4_odds 48 = .ok (.invokestatic 174, 3) := by decide +kernel
theorem dX4_odds_51 : decode cX4_odds 51 = .ok (.istore 5, 2) := by decide +kernel
theorem dX4_odds_53 : decode cX4_odds 53 = .ok (.iload_n 3, 1) := by decide +kernel
theorem dX4_odds_54 : decode cX4_odds 54 = .ok (.ifCond .ne 8, 3) := by decide +kernel
theorem dX4_odds_57 : decode cX4_odds 57 = .ok (.iload 4, 2) := by decide +kernel
theorem dX4_odds_59 : decode cX4_odds 59 = .ok (.goto 5, 3) := by decide +kernel
theorem dX4_odds_62 : decode cX4_odds 62 = .ok (.bipush 12, 2) := by decide +kernel
theorem dX4_odds_64 : decode cX4_odds 64 = .ok (.iload 5, 2) := by decide +kernel
theorem dX4_odds_66 : decode cX4_odds 66 = .ok (.idiv, 1) := by decide +kernel
theorem dX4_odds_67 : decode cX4_odds 67 = .ok (.iload_n 2, 1) := by decide +kernel
theorem dX4_odds_68 : decode cX4_odds 68 = .ok (.invokestatic 177, 3) := by decide +kernel
theorem dX4_odds_71 : decode cX4_odds 71 = .ok (.lreturn, 1) := by decide +kernel
theorem dX4_seed_0 : decode cX4_seed 0 = .ok (.aload_n 0, 1) := by decide +kernel
theorem dX4_seed_1 : decode cX4_seed 1 = .ok (.getfield 10, 3) := by decide +kernel
theorem dX4_seed_4 : decode cX4_seed 4 = .ok (.getfield 181, 3) := by decide +kernel
theorem dX4_seed_7 : decode cX4_seed 7 = .ok (.istore_n 2, 1) := by decide +kernel
theorem dX4_seed_8 : decode cX4_seed 8 = .ok (.aload_n 0, 1) := by decide +kernel
theorem dX4_seed_9 : decode cX4_seed 9 = .ok (.getfield 10, 3) := by decide +kernel
theorem dX4_seed_12 : decode cX4_seed 12 = .ok (.iload_n 1, 1) := by decide +kernel
theorem dX4_seed_13 : decode cX4_seed 13 = .ok (.putfield 181, 3) := by decide +kernel
theorem dX4_seed_16 : decode cX4_seed 16 = .ok (.iload_n 2, 1) := by decide +kernel
theorem dX4_seed_17 : decode cX4_seed 17 = .ok (.ireturn, 1) := by decide +kernel
theorem dX4_feed_0 : decode cX4_feed 0 = .ok (.iload_n 2, 1) := by decide +kernel
theorem dX4_feed_1 : decode cX4_feed 1 = .ok (.iconst 1, 1) := by decide +kernel
theorem dX4_feed_2 : decode cX4_feed 2 = .ok (.iconst 4, 1) := by decide +kernel
theorem dX4_feed_3 : decode cX4_feed 3 = .ok (.invokestatic 44, 3) := by decide +kernel
theorem dX4_feed_6 : decode cX4_feed 6 = .ok (.ifCond .ne 9, 3) := by decide +kernel
theorem dX4_feed_9 : decode cX4_feed 9 = .ok (.aload_n 0, 1) := by decide +kernel
theorem dX4_feed_10 : decode cX4_feed 10 = .ok (.iconst 0, 1) := by decide +kernel
theorem dX4_feed_11 : decode cX4_feed 11 = .ok (.invokevirtual 55, 3) := by decide +kernel
theorem dX4_feed_14 : decode cX4_feed 14 = .ok (.ireturn, 1) := by decide +kernel
theorem dX4_feed_15 : decode cX4_feed 15 = .ok (.aload_n 0, 1) := by decide +kernel
theorem dX4_feed_16 : decode cX4_feed 16 = .ok (.getfield 25, 3) := by decide +kernel
theorem dX4_feed_19 : decode cX4_feed 19 = .ok (.getfield 184, 3) := by decide +kernel
theorem dX4_feed_22 : decode cX4_feed 22 = .ok (.iload_n 2, 1) := by decide +kernel
theorem dX4_feed_23 : decode cX4_feed 23 = .ok (.iadd, 1) := by decide +kernel
theorem dX4_feed_24 : decode cX4_feed 24 = .ok (.bipush 120, 2) := by decide +kernel
theorem dX4_feed_26 : decode cX4_feed 26 = .ok (.if_icmp .le 9, 3) := by decide +kernel
theorem dX4_feed_29 : decode cX4_feed 29 = .ok (.aload_n 0, 1) := by decide +kernel
theorem dX4_feed_30 : decode cX4_feed 30 = .ok (.iconst 1, 1) := by decide +kernel
theorem dX4_feed_31 : decode cX4_feed 31 = .ok (.invokevirtual 55, 3) := by decide +kernel
theorem dX4_feed_34 : decode cX4_feed 34 = .ok (.ireturn, 1) := by decide +kernel
theorem dX4_feed_35 : decode cX4_feed 35 = .ok (.aload_n 0, 1) := by decide +kernel
theorem dX4_feed_36 : decode cX4_feed 36 = .ok (.getfield 25, 3) := by decide +kernel
theorem dX4_feed_39 : decode cX4_feed 39 = .ok (.iload_n 1, 1) := by decide +kernel
theorem dX4_feed_40 : decode cX4_feed 40 = .ok (.iload_n 2, 1) := by decide +kernel
theorem dX4_feed_41 : decode cX4_feed 41 = .ok (.invokevirtual 187, 3) := by decide +kernel
theorem dX4_feed_44 : decode cX4_feed 44 = .ok (.aload_n 0, 1) := by decide +kernel
theorem dX4_feed_45 : decode cX4_feed 45 = .ok (.getfield 25, 3) := by decide +kernel
theorem dX4_feed_48 : decode cX4_feed 48 = .ok (.getfield 184, 3) := by decide +kernel
theorem dX4_feed_51 : decode cX4_feed 51 = .ok (.ireturn, 1) := by decide +kernel
theorem dX4_wipe_0 : decode cX4_wipe 0 = .ok (.aload_n 0, 1) := by decide +kernel
theorem dX4_wipe_1 : decode cX4_wipe 1 = .ok (.getfield 25, 3) := by decide +kernel
theorem dX4_wipe_4 : decode cX4_wipe 4 = .ok (.getfield 184, 3) := by decide +kernel
theorem dX4_wipe_7 : decode cX4_wipe 7 = .ok (.istore_n 1, 1) := by decide +kernel
theorem dX4_wipe_8 : decode cX4_wipe 8 = .ok (.aload_n 0, 1) := by decide +kernel
theorem dX4_wipe_9 : decode cX4_wipe 9 = .ok (.getfield 25, 3) := by decide +kernel
theorem dX4_wipe_12 : decode cX4_wipe 12 = .ok (.iconst 0, 1) := by decide +kernel
theorem dX4_wipe_13 : decode cX4_wipe 13 = .ok (.putfield 184, 3) := by decide +kernel
theorem dX4_wipe_16 : decode cX4_wipe 16 = .ok (.iload_n 1, 1) := by decide +kernel
theorem dX4_wipe_17 : decode cX4_wipe 17 = .ok (.ireturn, 1) := by decide +kernel
theorem dX4_text_0 : decode cX4_text 0 = .ok (.aload_n 0, 1) := by decide +kernel
theorem dX4_text_1 : decode cX4_text 1 = .ok (.getfield 19, 3) := by decide +kernel
theorem dX4_text_4 : decode cX4_text 4 = .ok (.aload_n 0, 1) := by decide +kernel
theorem dX4_text_5 : decode cX4_text 5 = .ok (.getfield 10, 3) := by decide +kernel
theorem dX4_text_8 : decode cX4_text 8 = .ok (.invokevirtual 155, 3) := by decide +kernel
theorem dX4_text_11 : decode cX4_text 11 = .ok (.aload_n 0, 1) := by decide +kernel
theorem dX4_text_12 : decode cX4_text 12 = .ok (.getfield 25, 3) := by decide +kernel
theorem dX4_text_15 : decode cX4_text 15 = .ok (.aload_n 0, 1) := by decide +kernel
theorem dX4_text_16 : decode cX4_text 16 = .ok (.getfield 19, 3) := by decide +kernel
theorem dX4_text_19 : decode cX4_text 19 = .ok (.invokevirtual 190, 3) := by decide +kernel
theorem dX4_text_22 : decode cX4_text 22 = .ok (.istore_n 1, 1) := by decide +kernel
theorem dX4_text_23 : decode cX4_text 23 = .ok (.aload_n 0, 1) := by decide +kernel
theorem dX4_text_24 : decode cX4_text 24 = .ok (.getfield 25, 3) := by decide +kernel
theorem dX4_text_27 : decode cX4_text 27 = .ok (.iconst 0, 1) := by decide +kernel
theorem dX4_text_28 : decode cX4_text 28 = .ok (.putfield 184, 3) := by decide +kernel
theorem dX4_text_31 : decode cX4_text 31 = .ok (.iload_n 1, 1) := by decide +kernel
theorem dX4_text_32 : decode cX4_text 32 = .ok (.ifCond .le 14, 3) := by decide +kernel
theorem dX4_text_35 : decode cX4_text 35 = .ok (.aload_n 0, 1) := by decide +kernel
theorem dX4_text_36 : decode cX4_text 36 = .ok (.getfield 10, 3) := by decide +kernel
theorem dX4_text_39 : decode cX4_text 39 = .ok (.aload_n 0, 1) := by decide +kernel
theorem dX4_text_40 : decode cX4_text 40 = .ok (.getfield 19, 3) := by decide +kernel
theorem dX4_text_43 : decode cX4_text 43 = .ok (.invokevirtual 155, 3) := by decide +kernel
theorem dX4_text_46 : decode cX4_text 46 = .ok (.iload_n 1, 1) := by decide +kernel
theorem dX4_text_47 : decode cX4_text 47 = .ok (.ireturn, 1) := by decide +kernel
theorem dX4_hold_0 : decode cX4_hold 0 = .ok (.iload_n 1, 1) := by decide +kernel
theorem dX4_hold_1 : decode cX4_hold 1 = .ok (.invokestatic 194, 3) := by decide +kernel
theorem dX4_hold_4 : decode cX4_hold 4 = .ok (.ifCond .eq 16, 3) := by decide +kernel
theorem dX4_hold_7 : decode cX4_hold 7 = .ok (.iload_n 2, 1) := by decide +kernel
theorem dX4_hold_8 : decode cX4_hold 8 = .ok (.iconst (-1), 1) := by decide +kernel
theorem dX4_hold_9 : decode cX4_hold 9 = .ok (.if_icmp .eq 17, 3) := by decide +kernel
theorem dX4_hold_12 : decode cX4_hold 12 = .ok (.aload_n 0, 1) := by decide +kernel
theorem dX4_hold_13 : decode cX4_hold 13 = .ok (.iload_n 2, 1) := by decide +kernel
theorem dX4_hold_14 : decode cX4_hold 14 = .ok (.invokevirtual 84, 3) := by decide +kernel
theorem dX4_hold_17 : decode cX4_hold 17 = .ok (.ifCond .ne 9, 3) := by decide +kernel
theorem dX4_hold_20 : decode cX4_hold 20 = .ok (.aload_n 0, 1) := by decide +kernel
theorem dX4_hold_21 : decode cX4_hold 21 = .ok (.iconst 0, 1) := by decide +kernel
theorem dX4_hold_22 : decode cX4_hold 22 = .ok (.invokevirtual 55, 3) := by decide +kernel
theorem dX4_hold_25 : decode cX4_hold 25 = .ok (.ireturn, 1) := by decide +kernel
theorem dX4_hold_26 : decode cX4_hold 26 = .ok (.aload_n 0, 1) := by decide +kernel
theorem dX4_hold_27 : decode cX4_hold 27 = .ok (.getfield 10, 3) := by decide +kernel
theorem dX4_hold_30 : decode cX4_hold 30 = .ok (.getfield 197, 3) := by decide +kernel
theorem dX4_hold_33 : decode cX4_hold 33 = .ok (.iload_n 1, 1) := by decide +kernel
theorem dX4_hold_34 : decode cX4_hold 34 = .ok (.iload_n 2, 1) := by decide +kernel
theorem dX4_hold_35 : decode cX4_hold 35 = .ok (.iastore, 1) := by decide +kernel
theorem dX4_hold_36 : decode cX4_hold 36 = .ok (.iconst 1, 1) := by decide +kernel
theorem dX4_hold_37 : decode cX4_hold 37 = .ok (.ireturn, 1) := by decide +kernel
theorem dX4_as_0 : decode cX4_as 0 = .ok (.iload_n 1, 1) := by decide +kernel
theorem dX4_as_1 : decode cX4_as 1 = .ok (.invokestatic 194, 3) := by decide +kernel
theorem dX4_as_4 : decode cX4_as 4 = .ok (.ifCond .eq 10, 3) := by decide +kernel
theorem dX4_as_7 : decode cX4_as 7 = .ok (.iload_n 2, 1) := by decide +kernel
theorem dX4_as_8 : decode cX4_as 8 = .ok (.invokestatic 69, 3) := by decide +kernel
theorem dX4_as_11 : decode cX4_as 11 = .ok (.ifCond .ne 9, 3) := by decide +kernel
theorem dX4_as_14 : decode cX4_as 14 = .ok (.aload_n 0, 1) := by decide +kernel
theorem dX4_as_15 : decode cX4_as 15 = .ok (.iconst 0, 1) := by decide +kernel
theorem dX4_as_16 : decode cX4_as 16 = .ok (.invokevirtual 55, 3) := by decide +kernel
theorem dX4_as_19 : decode cX4_as 19 = .ok (.ireturn, 1) := by decide +kernel
theorem dX4_as_20 : decode cX4_as 20 = .ok (.aload_n 0, 1) := by decide +kernel
theorem dX4_as_21 : decode cX4_as 21 = .ok (.getfield 10, 3) := by decide +kernel
theorem dX4_as_24 : decode cX4_as 24 = .ok (.getfield 197, 3) := by decide +kernel
theorem dX4_as_27 : decode cX4_as 27 = .ok (.iload_n 1, 1) := by decide +kernel
theorem dX4_as_28 : decode cX4_as 28 = .ok (.iaload, 1) := by decide +kernel
theorem dX4_as_29 : decode cX4_as 29 = .ok (.istore_n 3, 1) := by decide +kernel
theorem dX4_as_30 : decode cX4_as 30 = .ok (.aload_n 0, 1) := by decide +kernel
theorem dX4_as_31 : decode cX4_as 31 = .ok (.iload_n 3, 1) := by decide +kernel
theorem dX4_as_32 : decode cX4_as 32 = .ok (.invokevirtual 84, 3) := by decide +kernel
theorem dX4_as_35 : decode cX4_as 35 = .ok (.ifCond .ne 9, 3) := by decide +kernel
theorem dX4_as_38 : decode cX4_as 38 = .ok (.aload_n 0, 1) := by decide +kernel
theorem dX4_as_39 : decode cX4_as 39 = .ok (.iconst 5, 1) := by decide +kernel
theorem dX4_as_40 : decode cX4_as 40 = .ok (.invokevirtual 55, 3) := by decide +kernel
theorem dX4_as_43 : decode cX4_as 43 = .ok (.ireturn, 1) := by decide +kernel
theorem dX4_as_44 : decode cX4_as 44 = .ok (.aload_n 0, 1) := by decide +kernel
theorem dX4_as_45 : decode cX4_as 45 = .ok (.getfield 10, 3) := by decide +kernel
theorem dX4_as_48 : decode cX4_as 48 = .ok (.getfield 94, 3) := by decide +kernel
theorem dX4_as_51 : decode cX4_as 51 = .ok (.iload_n 3, 1) := by decide +kernel
theorem dX4_as_52 : decode cX4_as 52 = .ok (.aaload, 1) := by decide +kernel
theorem dX4_as_53 : decode cX4_as 53 = .ok (.getfield 158, 3) := by decide +kernel
theorem dX4_as_56 : decode cX4_as 56 = .ok (.iload_n 2, 1) := by decide +kernel
theorem dX4_as_57 : decode cX4_as 57 = .ok (.invokestatic 200, 3) := by decide +kernel
theorem dX4_as_60 : decode cX4_as 60 = .ok (.ifCond .ne 9, 3) := by decide +kernel
theorem dX4_as_63 : decode cX4_as 63 = .ok (.aload_n 0, 1) := by decide +kernel
theorem dX4_as_64 : decode cX4_as 64 = .ok (.iconst 2, 1) := by decide +kernel
theorem dX4_as_65 : decode cX4_as 65 = .ok (.invokevirtual 55, 3) := by decide +kernel
theorem dX4_as_68 : decode cX4_as 68 = .ok (.ireturn, 1) := by decide +kernel
theorem dX4_as_69 : decode cX4_as 69 = .ok (.iload_n 3, 1) := by decide +kernel
theorem dX4_as_70 : decode cX4_as 70 = .ok (.ireturn, 1) := by decide +kernel
theorem dX4_sheet_0 : decode cX4_sheet 0 = .ok (.iload_n 2, 1) := by decide +kernel
theorem dX4_sheet_1 : decode cX4_sheet 1 = .ok (.ifCond .eq 21, 3) := by decide +kernel
theorem dX4_sheet_4 : decode cX4_sheet 4 = .ok (.iload_n 2, 1) := by decide +kernel
theorem dX4_sheet_5 : decode cX4_sheet 5 = .ok (.bipush 8, 2) := by decide +kernel
theorem dX4_sheet_7 : decode cX4_sheet 7 = .ok (.if_icmp .eq 15, 3) := by decide +kernel
theorem dX4_sheet_10 : decode cX4_sheet 10 = .ok (.iload_n 2, 1) := by decide +kernel
theorem dX4_sheet_11 : decode cX4_sheet 11 = .ok (.bipush 16, 2) := by decide +kernel
theorem dX4_sheet_13 : decode cX4_sheet 13 = .ok (.if_icmp .eq 9, 3) := by decide +kernel
theorem dX4_sheet_16 : decode cX4_sheet 16 = .ok (.iload_n 2, 1) := by decide +kernel
theorem dX4_sheet_17 : decode cX4_sheet 17 = .ok (.bipush 32, 2) := by decide +kernel
theorem dX4_sheet_19 : decode cX4_sheet 19 = .ok (.if_icmp .ne 7, 3) := by decide +kernel
theorem dX4_sheet_22 : decode cX4_sheet 22 = .ok (.iconst 1, 1) := by decide +kernel
theorem dX4_sheet_23 : decode cX4_sheet 23 = .ok (.goto 4, 3) := by decide +kernel
theorem dX4_sheet_26 : decode cX4_sheet 26 = .ok (.iconst 0, 1) := by decide +kernel
theorem dX4_sheet_27 : decode cX4_sheet 27 = .ok (.istore 4, 2) := by decide +kernel
theorem dX4_sheet_29 : decode cX4_sheet 29 = .ok (.iload_n 1, 1) := by decide +kernel
theorem dX4_sheet_30 : decode cX4_sheet 30 = .ok (.invokestatic 204, 3) := by decide +kernel
theorem dX4_sheet_33 : decode cX4_sheet 33 = .ok (.ifCond .eq 8, 3) := by decide +kernel
theorem dX4_sheet_36 : decode cX4_sheet 36 = .ok (.iload 4, 2) := by decide +kernel
theorem dX4_sheet_38 : decode cX4_sheet 38 = .ok (.ifCond .ne 9, 3) := by decide +kernel
theorem dX4_sheet_41 : decode cX4_sheet 41 = .ok (.aload_n 0, 1) := by decide +kernel
theorem dX4_sheet_42 : decode cX4_sheet 42 = .ok (.iconst 0, 1) := by decide +kernel
theorem dX4_sheet_43 : decode cX4_sheet 43 = .ok (.invokevirtual 55, 3) := by decide +kernel
theorem dX4_sheet_46 : decode cX4_sheet 46 = .ok (.ireturn, 1) := by decide +kernel
theorem dX4_sheet_47 : decode cX4_sheet 47 = .ok (.iload_n 3, 1) := by decide +kernel
theorem dX4_sheet_48 : decode cX4_sheet 48 = .ok (.ifCond .ge 10, 3) := by decide +kernel
theorem dX4_sheet_51 : decode cX4_sheet 51 = .ok (.aload_n 0, 1) := by decide +kernel
theorem dX4_sheet_52 : decode cX4_sheet 52 = .ok (.bipush 6, 2) := by decide +kernel
theorem dX4_sheet_54 : decode cX4_sheet 54 = .ok (.invokevirtual 55, 3) := by decide +kernel
theorem dX4_sheet_57 : decode cX4_sheet 57 = .ok (.ireturn, 1) := by decide +kernel
theorem dX4_sheet_58 : decode cX4_sheet 58 = .ok (.iload_n 3, 1) := by decide +kernel
theorem dX4_sheet_59 : decode cX4_sheet 59 = .ok (.bipush 40, 2) := by decide +kernel
theorem dX4_sheet_61 : decode cX4_sheet 61 = .ok (.if_icmp .le 9, 3) := by decide +kernel
theorem dX4_sheet_64 : decode cX4_sheet 64 = .ok (.aload_n 0, 1) := by decide +kernel
theorem dX4_sheet_65 : decode cX4_sheet 65 = .ok (.iconst 0, 1) := by decide +kernel
theorem dX4_sheet_66 : decode cX4_sheet 66 = .ok (.invokevirtual 55, 3) := by decide +kernel
theorem dX4_sheet_69 : decode cX4_sheet 69 = .ok (.ireturn, 1) := by decide +kernel
theorem dX4_sheet_70 : decode cX4_sheet 70 = .ok (.aload_n 0, 1) := by decide +kernel
theorem dX4_sheet_71 : decode cX4_sheet 71 = .ok (.getfield 31, 3) := by decide +kernel
theorem dX4_sheet_74 : decode cX4_sheet 74 = .ok (.iload_n 1, 1) := by decide +kernel
theorem dX4_sheet_75 : decode cX4_sheet 75 = .ok (.aaload, 1) := by decide +kernel
theorem dX4_sheet_76 : decode cX4_sheet 76 = .ok (.iload_n 2, 1) := by decide +kernel
theorem dX4_sheet_77 : decode cX4_sheet 77 = .ok (.iload_n 2, 1) := by decide +kernel
theorem dX4_sheet_78 : decode cX4_sheet 78 = .ok (.ifCond .ne 7, 3) := by decide +kernel
theorem dX4_sheet_81 : decode cX4_sheet 81 = .ok (.iconst 0, 1) := by decide +kernel
theorem dX4_sheet_82 : decode cX4_sheet 82 = .ok (.goto 4, 3) := by decide +kernel
theorem dX4_sheet_85 : decode cX4_sheet 85 = .ok (.iload_n 3, 1) := by decide +kernel
theorem dX4_sheet_86 : decode cX4_sheet 86 = .ok (.invokevirtual 207, 3) := by decide +kernel
theorem dX4_sheet_89 : decode cX4_sheet 89 = .ok (.aload_n 0, 1) := by decide +kernel
theorem dX4_sheet_90 : decode cX4_sheet 90 = .ok (.getfield 31, 3) := by decide +kernel
theorem dX4_sheet_93 : decode cX4_sheet 93 = .ok (.iload_n 1, 1) := by decide +kernel
theorem dX4_sheet_94 : decode cX4_sheet 94 = .ok (.aaload, 1) := by decide +kernel
theorem dX4_sheet_95 : decode cX4_sheet 95 = .ok (.getfield 210, 3) := by decide +kernel
theorem dX4_sheet_98 : decode cX4_sheet 98 = .ok (.ireturn, 1) := by decide +kernel
theorem dX4_write_0 : decode cX4_write 0 = .ok (.aload_n 0, 1) := by decide +kernel
theorem dX4_write_1 : decode cX4_write 1 = .ok (.iload_n 1, 1) := by decide +kernel
theorem dX4_write_2 : decode cX4_write 2 = .ok (.invokevirtual 211, 3) := by decide +kernel
theorem dX4_write_5 : decode cX4_write 5 = .ok (.istore 4, 2) := by decide +kernel
theorem dX4_write_7 : decode cX4_write 7 = .ok (.iload 4, 2) := by decide +kernel
theorem dX4_write_9 : decode cX4_write 9 = .ok (.iconst (-1), 1) := by decide +kernel
theorem dX4_write_10 : decode cX4_write 10 = .ok (.if_icmp .eq 10, 3) := by decide +kernel
theorem dX4_write_13 : decode cX4_write 13 = .ok (.aload_n 0, 1) := by decide +kernel
theorem dX4_write_14 : decode cX4_write 14 = .ok (.iload 4, 2) := by decide +kernel
theorem dX4_write_16 : decode cX4_write 16 = .ok (.invokevirtual 55, 3) := by decide +kernel
theorem dX4_write_19 : decode cX4_write 19 = .ok (.ireturn, 1) := by decide +kernel
theorem dX4_write_20 : decode cX4_write 20 = .ok (.iload_n 2, 1) := by decide +kernel
theorem dX4_write_21 : decode cX4_write 21 = .ok (.iconst 0, 1) := by decide +kernel
theorem dX4_write_22 : decode cX4_write 22 = .ok (.aload_n 0, 1) := by decide +kernel
theorem dX4_write_23 : decode cX4_write 23 = .ok (.getfield 31, 3) := by decide +kernel
theorem dX4_write_26 : decode cX4_write 26 = .ok (.iload_n 1, 1) := by decide +kernel
theorem dX4_write_27 : decode cX4_write 27 = .ok (.aaload, 1) := by decide +kernel
theorem dX4_write_28 : decode cX4_write 28 = .ok (.getfield 210, 3) := by decide +kernel
theorem dX4_write_31 : decode cX4_write 31 = .ok (.iconst 1, 1) := by decide +kernel
theorem dX4_write_32 : decode cX4_write 32 = .ok (.isub, 1) := by decide +kernel
theorem dX4_write_33 : decode cX4_write 33 = .ok (.invokestatic 44, 3) := by decide +kernel
theorem dX4_write_36 : decode cX4_write 36 = .ok (.ifCond .ne 9, 3) := by decide +kernel
theorem dX4_write_39 : decode cX4_write 39 = .ok (.aload_n 0, 1) := by decide +kernel
theorem dX4_write_40 : decode cX4_write 40 = .ok (.iconst 0, 1) := by decide +kernel
theorem dX4_write_41 : decode cX4_write 41 = .ok (.invokevirtual 55, 3) := by decide +kernel
theorem dX4_write_44 : decode cX4_write 44 = .ok (.ireturn, 1) := by decide +kernel
theorem dX4_write_45 : decode cX4_write 45 = .ok (.aload_n 0, 1) := by decide +kernel
theorem dX4_write_46 : decode cX4_write 46 = .ok (.getfield 31, 3) := by decide +kernel
theorem dX4_write_49 : decode cX4_write 49 = .ok (.iload_n 1, 1) := by decide +kernel
theorem dX4_write_50 : decode cX4_write 50 = .ok (.aaload, 1) := by decide +kernel
theorem dX4_write_51 : decode cX4_write 51 = .ok (.iload_n 2, 1) := by decide +kernel
theorem dX4_write_52 : decode cX4_write 52 = .ok (.iload_n 3, 1) := by decide +kernel
theorem dX4_write_53 : decode cX4_write 53 = .ok (.invokevirtual 214, 3) := by decide +kernel
theorem dX4_write_56 : decode cX4_write 56 = .ok (.iconst 1, 1) := by decide +kernel
theorem dX4_write_57 : decode cX4_write 57 = .ok (.ireturn, 1) := by decide +kernel
theorem dX4_copy_0 : decode cX4_copy 0 = .ok (.iload_n 1, 1) := by decide +kernel
theorem dX4_copy_1 : decode cX4_copy 1 = .ok (.invokestatic 204, 3) := by decide +kernel
theorem dX4_copy_4 : decode cX4_copy 4 = .ok (.ifCond .eq 10, 3) := by decide +kernel
theorem dX4_copy_7 : decode cX4_copy 7 = .ok (.iload_n 3, 1) := by decide +kernel
theorem dX4_copy_8 : decode cX4_copy 8 = .ok (.invokestatic 204, 3) := by decide +kernel
theorem dX4_copy_11 : decode cX4_copy 11 = .ok (.ifCond .ne 9, 3) := by decide +kernel
theorem dX4_copy_14 : decode cX4_copy 14 = .ok (.aload_n 0, 1) := by decide +kernel
theorem dX4_copy_15 : decode cX4_copy 15 = .ok (.iconst 0, 1) := by decide +kernel
theorem dX4_copy_16 : decode cX4_copy 16 = .ok (.invokevirtual 55, 3) := by decide +kernel
theorem dX4_copy_19 : decode cX4_copy 19 = .ok (.ireturn, 1) := by decide +kernel
theorem dX4_copy_20 : decode cX4_copy 20 = .ok (.aload_n 0, 1) := by decide +kernel
theorem dX4_copy_21 : decode cX4_copy 21 = .ok (.getfield 31, 3) := by decide +kernel
theorem dX4_copy_24 : decode cX4_copy 24 = .ok (.iload_n 1, 1) := by decide +kernel
theorem dX4_copy_25 : decode cX4_copy 25 = .ok (.aaload, 1) := by decide +kernel
theorem dX4_copy_26 : decode cX4_copy 26 = .ok (.invokevirtual 215, 3) := by decide +kernel
theorem dX4_copy_29 : decode cX4_copy 29 = .ok (.ifCond .ne 15, 3) := by decide +kernel
theorem dX4_copy_32 : decode cX4_copy 32 = .ok (.aload_n 0, 1) := by decide +kernel
theorem dX4_copy_33 : decode cX4_copy 33 = .ok (.getfield 31, 3) := by decide +kernel
theorem dX4_copy_36 : decode cX4_copy 36 = .ok (.iload_n 3, 1) := by decide +kernel
theorem dX4_copy_37 : decode cX4_copy 37 = .ok (.aaload, 1) := by decide +kernel
theorem dX4_copy_38 : decode cX4_copy 38 = .ok (.invokevirtual 215, 3) := by decide +kernel
theorem dX4_copy_41 : decode cX4_copy 41 = .ok (.ifCond .eq 9, 3) := by decide +kernel
theorem dX4_copy_44 : decode cX4_copy 44 = .ok (.aload_n 0, 1) := by decide +kernel
theorem dX4_copy_45 : decode cX4_copy 45 = .ok (.iconst 5, 1) := by decide +kernel
theorem dX4_copy_46 : decode cX4_copy 46 = .ok (.invokevirtual 55, 3) := by decide +kernel
theorem dX4_copy_49 : decode cX4_copy 49 = .ok (.ireturn, 1) := by decide +kernel
theorem dX4_copy_50 : decode cX4_copy 50 = .ok (.aload_n 0, 1) := by decide +kernel
theorem dX4_copy_51 : decode cX4_copy 51 = .ok (.getfield 31, 3) := by decide +kernel
theorem dX4_copy_54 : decode cX4_copy 54 = .ok (.iload_n 1, 1) := by decide +kernel
theorem dX4_copy_55 : decode cX4_copy 55 = .ok (.aaload, 1) := by decide +kernel
theorem dX4_copy_56 : decode cX4_copy 56 = .ok (.getfield 219, 3) := by decide +kernel
theorem dX4_copy_59 : decode cX4_copy 59 = .ok (.aload_n 0, 1) := by decide +kernel
theorem dX4_copy_60 : decode cX4_copy 60 = .ok (.getfield 31, 3) := by decide +kernel
theorem dX4_copy_63 : decode cX4_copy 63 = .ok (.iload_n 3, 1) := by decide +kernel
theorem dX4_copy_64 : decode cX4_copy 64 = .ok (.aaload, 1) := by decide +kernel
theorem dX4_copy_65 : decode cX4_copy 65 = .ok (.getfield 219, 3) := by decide +kernel
theorem dX4_copy_68 : decode cX4_copy 68 = .ok (.if_icmp .eq 9, 3) := by decide +kernel
theorem dX4_copy_71 : decode cX4_copy 71 = .ok (.aload_n 0, 1) := by decide +kernel
theorem dX4_copy_72 : decode cX4_copy 72 = .ok (.iconst 2, 1) := by decide +kernel
theorem dX4_copy_73 : decode cX4_copy 73 = .ok (.invokevirtual 55, 3) := by decide +kernel
theorem dX4_copy_76 : decode cX4_copy 76 = .ok (.ireturn, 1) := by decide +kernel
theorem dX4_copy_77 : decode cX4_copy 77 = .ok (.aload_n 0, 1) := by decide +kernel
theorem dX4_copy_78 : decode cX4_copy 78 = .ok (.getfield 31, 3) := by decide +kernel
theorem dX4_copy_81 : decode cX4_copy 81 = .ok (.iload_n 1, 1) := by decide +kernel
theorem dX4_copy_82 : decode cX4_copy 82 = .ok (.aaload, 1) := by decide +kernel
theorem dX4_copy_83 : decode cX4_copy 83 = .ok (.iload_n 2, 1) := by decide +kernel
theorem dX4_copy_84 : decode cX4_copy 84 = .ok (.iload 5, 2) := by decide +kernel
theorem dX4_copy_86 : decode cX4_copy 86 = .ok (.invokevirtual 222, 3) := by decide +kernel
theorem dX4_copy_89 : decode cX4_copy 89 = .ok (.ifCond .eq 19, 3) := by decide +kernel
theorem dX4_copy_92 : decode cX4_copy 92 = .ok (.aload_n 0, 1) := by decide +kernel
theorem dX4_copy_93 : decode cX4_copy 93 = .ok (.getfield 31, 3) := by decide +kernel
theorem dX4_copy_96 : decode cX4_copy 96 = .ok (.iload_n 3, 1) := by decide +kernel
theorem dX4_copy_97 : decode cX4_copy 97 = .ok (.aaload, 1) := by decide +kernel
theorem dX4_copy_98 : decode cX4_copy 98 = .ok (.iload 4, 2) := by decide +kernel
theorem dX4_copy_100 : decode cX4_copy 100 = .ok (.iload 5, 2) := by decide +kernel
theorem dX4_copy_102 : decode cX4_copy 102 = .ok (.invokevirtual 222, 3) := by decide +kernel
theorem dX4_copy_105 : decode cX4_copy 105 = .ok (.ifCond .ne 9, 3) := by decide +kernel
theorem dX4_copy_108 : decode cX4_copy 108 = .ok (.aload_n 0, 1) := by decide +kernel
theorem dX4_copy_109 : decode cX4_copy 109 = .ok (.iconst 0, 1) := by decide +kernel
theorem dX4_copy_110 : decode cX4_copy 110 = .ok (.invokevirtual 55, 3) := by decide +kernel
theorem dX4_copy_113 : decode cX4_copy 113 = .ok (.ireturn, 1) := by decide +kernel
theorem dX4_copy_114 : decode cX4_copy 114 = .ok (.aload_n 0, 1) := by decide +kernel
theorem dX4_copy_115 : decode cX4_copy 115 = .ok (.getfield 31, 3) := by decide +kernel
theorem dX4_copy_118 : decode cX4_copy 118 = .ok (.iload_n 1, 1) := by decide +kernel
theorem dX4_copy_119 : decode cX4_copy 119 = .ok (.aaload, 1) := by decide +kernel
theorem dX4_copy_120 : decode cX4_copy 120 = .ok (.getfield 225, 3) := by decide +kernel
theorem dX4_copy_123 : decode cX4_copy 123 = .ok (.iload_n 2, 1) := by decide +kernel
theorem dX4_copy_124 : decode cX4_copy 124 = .ok (.aload_n 0, 1) := by decide +kernel
theorem dX4_copy_125 : decode cX4_copy 125 = .ok (.getfield 31, 3) := by decide +kernel
theorem dX4_copy_128 : decode cX4_copy 128 = .ok (.iload_n 3, 1) := by decide +kernel
theorem dX4_copy_129 : decode cX4_copy 129 = .ok (.aaload, 1) := by decide +kernel
theorem dX4_copy_130 : decode cX4_copy 130 = .ok (.getfield 225, 3) := by decide +kernel
theorem dX4_copy_133 : decode cX4_copy 133 = .ok (.iload 4, 2) := by decide +kernel
theorem dX4_copy_135 : decode cX4_copy 135 = .ok (.iload 5, 2) := by decide +kernel
theorem dX4_copy_137 : decode cX4_copy 137 = .ok (.invokestatic 228, 3) := by decide +kernel
theorem dX4_copy_140 : decode cX4_copy 140 = .ok (.iload 5, 2) := by decide +kernel
theorem dX4_copy_142 : decode cX4_copy 142 = .ok (.ireturn, 1) := by decide +kernel
theorem dX4_load_0 : decode cX4_load 0 = .ok (.aload_n 0, 1) := by decide +kernel
theorem dX4_load_1 : decode cX4_load 1 = .ok (.iload_n 1, 1) := by decide +kernel
theorem dX4_load_2 : decode cX4_load 2 = .ok (.invokevirtual 211, 3) := by decide +kernel
theorem dX4_load_5 : decode cX4_load 5 = .ok (.istore_n 2, 1) := by decide +kernel
theorem dX4_load_6 : decode cX4_load 6 = .ok (.iload_n 2, 1) := by decide +kernel
theorem dX4_load_7 : decode cX4_load 7 = .ok (.iconst (-1), 1) := by decide +kernel
theorem dX4_load_8 : decode cX4_load 8 = .ok (.if_icmp .eq 9, 3) := by decide +kernel
theorem dX4_load_11 : decode cX4_load 11 = .ok (.aload_n 0, 1) := by decide +kernel
theorem dX4_load_12 : decode cX4_load 12 = .ok (.iload_n 2, 1) := by decide +kernel
theorem dX4_load_13 : decode cX4_load 13 = .ok (.invokevirtual 55, 3) := by decide +kernel
theorem dX4_load_16 : decode cX4_load 16 = .ok (.ireturn, 1) := by decide +kernel
theorem dX4_load_17 : decode cX4_load 17 = .ok (.aload_n 0, 1) := by decide +kernel
theorem dX4_load_18 : decode cX4_load 18 = .ok (.getfield 31, 3) := by decide +kernel
theorem dX4_load_21 : decode cX4_load 21 = .ok (.iload_n 1, 1) := by decide +kernel
theorem dX4_load_22 : decode cX4_load 22 = .ok (.aaload, 1) := by decide +kernel
theorem dX4_load_23 : decode cX4_load 23 = .ok (.astore_n 3, 1) := by decide +kernel
theorem dX4_load_24 : decode cX4_load 24 = .ok (.iconst 0, 1) := by decide +kernel
theorem dX4_load_25 : decode cX4_load 25 = .ok (.istore 4, 2) := by decide +kernel
theorem dX4_load_27 : decode cX4_load 27 = .ok (.iload 4, 2) := by decide +kernel
theorem dX4_load_29 : decode cX4_load 29 = .ok (.bipush 6, 2) := by decide +kernel
theorem dX4_load_31 : decode cX4_load 31 = .ok (.if_icmp .ge 48, 3) := by decide +kernel
theorem dX4_load_34 : decode cX4_load 34 = .ok (.iload 4, 2) := by decide +kernel
theorem dX4_load_36 : decode cX4_load 36 = .ok (.aload_n 3, 1) := by decide +kernel
theorem dX4_load_37 : decode cX4_load 37 = .ok (.getfield 210, 3) := by decide +kernel
theorem dX4_load_40 : decode cX4_load 40 = .ok (.if_icmp .ge 39, 3) := by decide +kernel
theorem dX4_load_43 : decode cX4_load 43 = .ok (.aload_n 3, 1) := by decide +kernel
theorem dX4_load_44 : decode cX4_load 44 = .ok (.getfield 225, 3) := by decide +kernel
theorem dX4_load_47 : decode cX4_load 47 = .ok (.iload 4, 2) := by decide +kernel
theorem dX4_load_49 : decode cX4_load 49 = .ok (.iaload, 1) := by decide +kernel
theorem dX4_load_50 : decode cX4_load 50 = .ok (.invokestatic 63, 3) := by decide +kernel
theorem dX4_load_53 : decode cX4_load 53 = .ok (.ifCond .eq 26, 3) := by decide +kernel
theorem dX4_load_56 : decode cX4_load 56 = .ok (.aload_n 0, 1) := by decide +kernel
theorem dX4_load_57 : decode cX4_load 57 = .ok (.getfield 10, 3) := by decide +kernel
theorem dX4_load_60 : decode cX4_load 60 = .ok (.getfield 66, 3) := by decide +kernel
theorem dX4_load_63 : decode cX4_load 63 = .ok (.iload 4, 2) := by decide +kernel
theorem dX4_load_65 : decode cX4_load 65 = .ok (.aload_n 3, 1) := by decide +kernel
theorem dX4_load_66 : decode cX4_load 66 = .ok (.getfield 225, 3) := by decide +kernel
theorem dX4_load_69 : decode cX4_load 69 = .ok (.iload 4, 2) := by decide +kernel
theorem dX4_load_71 : decode cX4_load 71 = .ok (.iaload, 1) := by decide +kernel
theorem dX4_load_72 : decode cX4_load 72 = .ok (.iastore, 1) := by decide +kernel
theorem dX4_load_73 : decode cX4_load 73 = .ok (.iinc 4 1, 3) := by decide +kernel
theorem dX4_load_76 : decode cX4_load 76 = .ok (.goto (-49), 3) := by decide +kernel
theorem dX4_load_79 : decode cX4_load 79 = .ok (.iload 4, 2) := by decide +kernel
theorem dX4_load_81 : decode cX4_load 81 = .ok (.ireturn, 1) := by decide +kernel
theorem dX4_judge_0 : decode cX4_judge 0 = .ok (.aload_n 0, 1) := by decide +kernel
theorem dX4_judge_1 : decode cX4_judge 1 = .ok (.iload_n 1, 1) := by decide +kernel
theorem dX4_judge_2 : decode cX4_judge 2 = .ok (.invokevirtual 211, 3) := by decide +kernel
theorem dX4_judge_5 : decode cX4_judge 5 = .ok (.istore_n 2, 1) := by decide +kernel
theorem dX4_judge_6 : decode cX4_judge 6 = .ok (.iload_n 2, 1) := by decide +kernel
theorem dX4_judge_7 : decode cX4_judge 7 = .ok (.iconst (-1), 1) := by decide +kernel
theorem dX4_judge_8 : decode cX4_judge 8 = .ok (.if_icmp .eq 9, 3) := by decide +kernel
theorem dX4_judge_11 : decode cX4_judge 11 = .ok (.aload_n 0, 1) := by decide +kernel
theorem dX4_judge_12 : decode cX4_judge 12 = .ok (.iload_n 2, 1) := by decide +kernel
theorem dX4_judge_13 : decode cX4_judge 13 = .ok (.invokevirtual 55, 3) := by decide +kernel
theorem dX4_judge_16 : decode cX4_judge 16 = .ok (.ireturn, 1) := by decide +kernel
theorem dX4_judge_17 : decode cX4_judge 17 = .ok (.aload_n 0, 1) := by decide +kernel
theorem dX4_judge_18 : decode cX4_judge 18 = .ok (.getfield 31, 3) := by decide +kernel
theorem dX4_judge_21 : decode cX4_judge 21 = .ok (.iload_n 1, 1) := by decide +kernel
theorem dX4_judge_22 : decode cX4_judge 22 = .ok (.aaload, 1) := by decide +kernel
theorem dX4_judge_23 : decode cX4_judge 23 = .ok (.astore_n 3, 1) := by decide +kernel
theorem dX4_judge_24 : decode cX4_judge 24 = .ok (.iconst 0, 1) := by decide +kernel
theorem dX4_judge_25 : decode cX4_judge 25 = .ok (.istore 4, 2) := by decide +kernel
theorem dX4_judge_27 : decode cX4_judge 27 = .ok (.iload 4, 2) := by decide +kernel
theorem dX4_judge_29 : decode cX4_judge 29 = .ok (.aload_n 3, 1) := by decide +kernel
theorem dX4_judge_30 : decode cX4_judge 30 = .ok (.getfield 210, 3) := by decide +kernel
theorem dX4_judge_33 : decode cX4_judge 33 = .ok (.if_icmp .ge 46, 3) := by decide +kernel
theorem dX4_judge_36 : decode cX4_judge 36 = .ok (.aload_n 0, 1) := by decide +kernel
theorem dX4_judge_37 : decode cX4_judge 37 = .ok (.iload 4, 2) := by decide +kernel
theorem dX4_judge_39 : decode cX4_judge 39 = .ok (.invokevirtual 84, 3) := by decide +kernel
theorem dX4_judge_42 : decode cX4_judge 42 = .ok (.ifCond .eq 26, 3) := by decide +kernel
theorem dX4_judge_45 : decode cX4_judge 45 = .ok (.aload_n 0, 1) := by decide +kernel
theorem dX4_judge_46 : decode cX4_judge 46 = .ok (.getfield 10, 3) := by decide +kernel
theorem dX4_judge_49 : decode cX4_judge 49 = .ok (.getfield 94, 3) := by decide +kernel
theorem dX4_judge_52 : decode cX4_judge 52 = .ok (.iload 4, 2) := by decide +kernel
theorem dX4_judge_54 : decode cX4_judge 54 = .ok (.aaload, 1) := by decide +kernel
theorem dX4_judge_55 : decode cX4_judge 55 = .ok (.getfield 79, 3) := by decide +kernel
theorem dX4_judge_58 : decode cX4_judge 58 = .ok (.aload_n 3, 1) := by decide +kernel
theorem dX4_judge_59 : decode cX4_judge 59 = .ok (.getfield 225, 3) := by decide +kernel
theorem dX4_judge_62 : decode cX4_judge 62 = .ok (.iload 4, 2) := by decide +kernel
theorem dX4_judge_64 : decode cX4_judge 64 = .ok (.iaload, 1) := by decide +kernel
theorem dX4_judge_65 : decode cX4_judge 65 = .ok (.if_icmp .eq 8, 3) := by decide +kernel
theorem dX4_judge_68 : decode cX4_judge 68 = .ok (.iconst 1, 1) := by decide +kernel
theorem dX4_judge_69 : decode cX4_judge 69 = .ok (.iload 4, 2) := by decide +kernel
theorem dX4_judge_71 : decode cX4_judge 71 = .ok (.iadd, 1) := by decide +kernel
theorem dX4_judge_72 : decode cX4_judge 72 = .ok (.ireturn, 1) := by decide +kernel
theorem dX4_judge_73 : decode cX4_judge 73 = .ok (.iinc 4 1, 3) := by decide +kernel
theorem dX4_judge_76 : decode cX4_judge 76 = .ok (.goto (-49), 3) := by decide +kernel
theorem dX4_judge_79 : decode cX4_judge 79 = .ok (.iconst 0, 1) := by decide +kernel
theorem dX4_judge_80 : decode cX4_judge 80 = .ok (.ireturn, 1) := by decide +kernel
theorem dX4_image_0 : decode cX4_image 0 = .ok (.aload_n 0, 1) := by decide +kernel
theorem dX4_image_1 : decode cX4_image 1 = .ok (.getfield 16, 3) := by decide +kernel
theorem dX4_image_4 : decode cX4_image 4 = .ok (.aload_n 0, 1) := by decide +kernel
theorem dX4_image_5 : decode cX4_image 5 = .ok (.getfield 10, 3) := by decide +kernel
theorem dX4_image_8 : decode cX4_image 8 = .ok (.invokevirtual 155, 3) := by decide +kernel
theorem dX4_image_11 : decode cX4_image 11 = .ok (.aload_n 0, 1) := by decide +kernel
theorem dX4_image_12 : decode cX4_image 12 = .ok (.iconst 1, 1) := by decide +kernel
theorem dX4_image_13 : decode cX4_image 13 = .ok (.putfield 39, 3) := by decide +kernel
theorem dX4_image_16 : decode cX4_image 16 = .ok (.iconst 1, 1) := by decide +kernel
theorem dX4_image_17 : decode cX4_image 17 = .ok (.ireturn, 1) := by decide +kernel
theorem dX4_undo_0 : decode cX4_undo 0 = .ok (.aload_n 0, 1) := by decide +kernel
theorem dX4_undo_1 : decode cX4_undo 1 = .ok (.getfield 39, 3) := by decide +kernel
theorem dX4_undo_4 : decode cX4_undo 4 = .ok (.ifCond .ne 9, 3) := by decide +kernel
theorem dX4_undo_7 : decode cX4_undo 7 = .ok (.aload_n 0, 1) := by decide +kernel
theorem dX4_undo_8 : decode cX4_undo 8 = .ok (.iconst 3, 1) := by decide +kernel
theorem dX4_undo_9 : decode cX4_undo 9 = .ok (.invokevirtual 55, 3) := by decide +kernel
theorem dX4_undo_12 : decode cX4_undo 12 = .ok (.ireturn, 1) := by decide +kernel
theorem dX4_undo_13 : decode cX4_undo 13 = .ok (.aload_n 0, 1) := by decide +kernel
theorem dX4_undo_14 : decode cX4_undo 14 = .ok (.getfield 10, 3) := by decide +kernel
theorem dX4_undo_17 : decode cX4_undo 17 = .ok (.aload_n 0, 1) := by decide +kernel
theorem dX4_undo_18 : decode cX4_undo 18 = .ok (.getfield 16, 3) := by decide +kernel
theorem dX4_undo_21 : decode cX4_undo 21 = .ok (.invokevirtual 155, 3) := by decide +kernel
theorem dX4_undo_24 : decode cX4_undo 24 = .ok (.aload_n 0, 1) := by decide +kernel
theorem dX4_undo_25 : decode cX4_undo 25 = .ok (.getfield 10, 3) := by decide +kernel
theorem dX4_undo_28 : decode cX4_undo 28 = .ok (.getfield 111, 3) := by decide +kernel
theorem dX4_undo_31 : decode cX4_undo 31 = .ok (.ireturn, 1) := by decide +kernel
theorem dX4_tear_0 : decode cX4_tear 0 = .ok (.aload_n 0, 1) := by decide +kernel
theorem dX4_tear_1 : decode cX4_tear 1 = .ok (.getfield 39, 3) := by decide +kernel
theorem dX4_tear_4 : decode cX4_tear 4 = .ok (.ifCond .eq 7, 3) := by decide +kernel
theorem dX4_tear_7 : decode cX4_tear 7 = .ok (.iconst 1, 1) := by decide +kernel
theorem dX4_tear_8 : decode cX4_tear 8 = .ok (.goto 4, 3) := by decide +kernel
theorem dX4_tear_11 : decode cX4_tear 11 = .ok (.iconst 0, 1) := by decide +kernel
theorem dX4_tear_12 : decode cX4_tear 12 = .ok (.istore_n 1, 1) := by decide +kernel
theorem dX4_tear_13 : decode cX4_tear 13 = .ok (.aload_n 0, 1) := by decide +kernel
theorem dX4_tear_14 : decode cX4_tear 14 = .ok (.iconst 0, 1) := by decide +kernel
theorem dX4_tear_15 : decode cX4_tear 15 = .ok (.putfield 39, 3) := by decide +kernel
theorem dX4_tear_18 : decode cX4_tear 18 = .ok (.iload_n 1, 1) := by decide +kernel
theorem dX4_tear_19 : decode cX4_tear 19 = .ok (.ireturn, 1) := by decide +kernel
theorem dX4_count_0 : decode cX4_count 0 = .ok (.iload_n 1, 1) := by decide +kernel
theorem dX4_count_1 : decode cX4_count 1 = .ok (.tableswitch 114 0 7 #[47, 55, 63, 71, 79, 90, 98, 106], 47) := by decide +kernel
theorem dX4_count_48 : decode cX4_count 48 = .ok (.aload_n 0, 1) := by decide +kernel
theorem dX4_count_49 : decode cX4_count 49 = .ok (.getfield 10, 3) := by decide +kernel
theorem dX4_count_52 : decode cX4_count 52 = .ok (.getfield 111, 3) := by decide +kernel
theorem dX4_count_55 : decode cX4_count 55 = .ok (.ireturn, 1) := by decide +kernel
theorem dX4_count_56 : decode cX4_count 56 = .ok (.aload_n 0, 1) := by decide +kernel
theorem dX4_count_57 : decode cX4_count 57 = .ok (.getfield 10, 3) := by decide +kernel
theorem dX4_count_60 : decode cX4_count 60 = .ok (.getfield 72, 3) := by decide +kernel
theorem dX4_count_63 : decode cX4_count 63 = .ok (.ireturn, 1) := by decide +kernel
theorem dX4_count_64 : decode cX4_count 64 = .ok (.aload_n 0, 1) := by decide +kernel
theorem dX4_count_65 : decode cX4_count 65 = .ok (.getfield 10, 3) := by decide +kernel
theorem dX4_count_68 : decode cX4_count 68 = .ok (.getfield 48, 3) := by decide +kernel
theorem dX4_count_71 : decode cX4_count 71 = .ok (.ireturn, 1) := by decide +kernel
theorem dX4_count_72 : decode cX4_count 72 = .ok (.aload_n 0, 1) := by decide +kernel
theorem dX4_count_73 : decode cX4_count 73 = .ok (.getfield 10, 3) := by decide +kernel
theorem dX4_count_76 : decode cX4_count 76 = .ok (.getfield 119, 3) := by decide +kernel
theorem dX4_count_79 : decode cX4_count 79 = .ok (.ireturn, 1) := by decide +kernel
theorem dX4_count_80 : decode cX4_count 80 = .ok (.aload_n 0, 1) := by decide +kernel
theorem dX4_count_81 : decode cX4_count 81 = .ok (.getfield 10, 3) := by decide +kernel
theorem dX4_count_84 : decode cX4_count 84 = .ok (.invokevirtual 122, 3) := by decide +kernel
theorem dX4_count_87 : decode cX4_count 87 = .ok (.invokestatic 234, 3) := by decide +kernel
theorem dX4_count_90 : decode cX4_count 90 = .ok (.ireturn, 1) := by decide +kernel
theorem dX4_count_91 : decode cX4_count 91 = .ok (.aload_n 0, 1) := by decide +kernel
theorem dX4_count_92 : decode cX4_count 92 = .ok (.getfield 25, 3) := by decide +kernel
theorem dX4_count_95 : decode cX4_count 95 = .ok (.getfield 184, 3) := by decide +kernel
theorem dX4_count_98 : decode cX4_count 98 = .ok (.ireturn, 1) := by decide +kernel
theorem dX4_count_99 : decode cX4_count 99 = .ok (.aload_n 0, 1) := by decide +kernel
theorem dX4_count_100 : decode cX4_count 100 = .ok (.getfield 10, 3) := by decide +kernel
theorem dX4_count_103 : decode cX4_count 103 = .ok (.getfield 181, 3) := by decide +kernel
theorem dX4_count_106 : decode cX4_count 106 = .ok (.ireturn, 1) := by decide +kernel
theorem dX4_count_107 : decode cX4_count 107 = .ok (.aload_n 0, 1) := by decide +kernel
theorem dX4_count_108 : decode cX4_count 108 = .ok (.getfield 10, 3) := by decide +kernel
theorem dX4_count_111 : decode cX4_count 111 = .ok (.invokevirtual 239, 3) := by decide +kernel
theorem dX4_count_114 : decode cX4_count 114 = .ok (.ireturn, 1) := by decide +kernel
theorem dX4_count_115 : decode cX4_count 115 = .ok (.aload_n 0, 1) := by decide +kernel
theorem dX4_count_116 : decode cX4_count 116 = .ok (.iconst 0, 1) := by decide +kernel
theorem dX4_count_117 : decode cX4_count 117 = .ok (.invokevirtual 55, 3) := by decide +kernel
theorem dX4_count_120 : decode cX4_count 120 = .ok (.ireturn, 1) := by decide +kernel
theorem dX4_status_0 : decode cX4_status 0 = .ok (.iload_n 1, 1) := by decide +kernel
theorem dX4_status_1 : decode cX4_status 1 = .ok (.iconst (-1), 1) := by decide +kernel
theorem dX4_status_2 : decode cX4_status 2 = .ok (.bipush 6, 2) := by decide +kernel
theorem dX4_status_4 : decode cX4_status 4 = .ok (.invokestatic 44, 3) := by decide +kernel
theorem dX4_status_7 : decode cX4_status 7 = .ok (.ifCond .ne 9, 3) := by decide +kernel
theorem dX4_status_10 : decode cX4_status 10 = .ok (.aload_n 0, 1) := by decide +kernel
theorem dX4_status_11 : decode cX4_status 11 = .ok (.iconst 0, 1) := by decide +kernel
theorem dX4_status_12 : decode cX4_status 12 = .ok (.invokevirtual 55, 3) := by decide +kernel
theorem dX4_status_15 : decode cX4_status 15 = .ok (.ireturn, 1) := by decide +kernel
theorem dX4_status_16 : decode cX4_status 16 = .ok (.iload_n 1, 1) := by decide +kernel
theorem dX4_status_17 : decode cX4_status 17 = .ok (.ifCond .lt 10, 3) := by decide +kernel
theorem dX4_status_20 : decode cX4_status 20 = .ok (.aload_n 0, 1) := by decide +kernel
theorem dX4_status_21 : decode cX4_status 21 = .ok (.getfield 35, 3) := by decide +kernel
theorem dX4_status_24 : decode cX4_status 24 = .ok (.iload_n 1, 1) := by decide +kernel
theorem dX4_status_25 : decode cX4_status 25 = .ok (.iaload, 1) := by decide +kernel
theorem dX4_status_26 : decode cX4_status 26 = .ok (.ireturn, 1) := by decide +kernel
theorem dX4_status_27 : decode cX4_status 27 = .ok (.iconst 0, 1) := by decide +kernel
theorem dX4_status_28 : decode cX4_status 28 = .ok (.istore_n 2, 1) := by decide +kernel
theorem dX4_status_29 : decode cX4_status 29 = .ok (.aload_n 0, 1) := by decide +kernel
theorem dX4_status_30 : decode cX4_status 30 = .ok (.getfield 35, 3) := by decide +kernel
theorem dX4_status_33 : decode cX4_status 33 = .ok (.astore_n 3, 1) := by decide +kernel
theorem dX4_status_34 : decode cX4_status 34 = .ok (.aload_n 3, 1) := by decide +kernel
theorem dX4_status_35 : decode cX4_status 35 = .ok (.arraylength, 1) := by decide +kernel
theorem dX4_status_36 : decode cX4_status 36 = .ok (.istore 4, 2) := by decide +kernel
theorem dX4_status_38 : decode cX4_status 38 = .ok (.iconst 0, 1) := by decide +kernel
theorem dX4_status_39 : decode cX4_status 39 = .ok (.istore 5, 2) := by decide +kernel
theorem dX4_status_41 : decode cX4_status 41 = .ok (.iload 5, 2) := by decide +kernel
theorem dX4_status_43 : decode cX4_status 43 = .ok (.iload 4, 2) := by decide +kernel
theorem dX4_status_45 : decode cX4_status 45 = .ok (.if_icmp .ge 20, 3) := by decide +kernel
theorem dX4_status_48 : decode cX4_status 48 = .ok (.aload_n 3, 1) := by decide +kernel
theorem dX4_status_49 : decode cX4_status 49 = .ok (.iload 5, 2) := by decide +kernel
theorem dX4_status_51 : decode cX4_status 51 = .ok (.iaload, 1) := by decide +kernel
theorem dX4_status_52 : decode cX4_status 52 = .ok (.istore 6, 2) := by decide +kernel
theorem dX4_status_54 : decode cX4_status 54 = .ok (.iload_n 2, 1) := by decide +kernel
theorem dX4_status_55 : decode cX4_status 55 = .ok (.iload 6, 2) := by decide +kernel
theorem dX4_status_57 : decode cX4_status 57 = .ok (.iadd, 1) := by decide +kernel
theorem dX4_status_58 : decode cX4_status 58 = .ok (.istore_n 2, 1) := by decide +kernel
theorem dX4_status_59 : decode cX4_status 59 = .ok (.iinc 5 1, 3) := by decide +kernel
theorem dX4_status_62 : decode cX4_status 62 = .ok (.goto (-21), 3) := by decide +kernel
theorem dX4_status_65 : decode cX4_status 65 = .ok (.iload_n 2, 1) := by decide +kernel
theorem dX4_status_66 : decode cX4_status 66 = .ok (.ireturn, 1) := by decide +kernel
theorem dX4_found_0 : decode cX4_found 0 = .ok (.aload_n 0, 1) := by decide +kernel
theorem dX4_found_1 : decode cX4_found 1 = .ok (.getfield 35, 3) := by decide +kernel
theorem dX4_found_4 : decode cX4_found 4 = .ok (.iload_n 1, 1) := by decide +kernel
theorem dX4_found_5 : decode cX4_found 5 = .ok (.dup2, 1) := by decide +kernel
theorem dX4_found_6 : decode cX4_found 6 = .ok (.iaload, 1) := by decide +kernel
theorem dX4_found_7 : decode cX4_found 7 = .ok (.iconst 1, 1) := by decide +kernel
theorem dX4_found_8 : decode cX4_found 8 = .ok (.iadd, 1) := by decide +kernel
theorem dX4_found_9 : decode cX4_found 9 = .ok (.iastore, 1) := by decide +kernel
theorem dX4_found_10 : decode cX4_found 10 = .ok (.ldc 242, 2) := by decide +kernel
theorem dX4_found_12 : decode cX4_found 12 = .ok (.iload_n 1, 1) := by decide +kernel
theorem dX4_found_13 : decode cX4_found 13 = .ok (.isub, 1) := by decide +kernel
theorem dX4_found_14 : decode cX4_found 14 = .ok (.ireturn, 1) := by decide +kernel
theorem dX4_isDish_0 : decode cX4_isDish 0 = .ok (.iload_n 1, 1) := by decide +kernel
theorem dX4_isDish_1 : decode cX4_isDish 1 = .ok (.iconst 0, 1) := by decide +kernel
theorem dX4_isDish_2 : decode cX4_isDish 2 = .ok (.aload_n 0, 1) := by decide +kernel
theorem dX4_isDish_3 : decode cX4_isDish 3 = .ok (.getfield 10, 3) := by decide +kernel
theorem dX4_isDish_6 : decode cX4_isDish 6 = .ok (.getfield 72, 3) := by decide +kernel
theorem dX4_isDish_9 : decode cX4_isDish 9 = .ok (.iconst 1, 1) := by decide +kernel
theorem dX4_isDish_10 : decode cX4_isDish 10 = .ok (.isub, 1) := by decide +kernel
theorem dX4_isDish_11 : decode cX4_isDish 11 = .ok (.invokestatic 44, 3) := by decide +kernel
theorem dX4_isDish_14 : decode cX4_isDish 14 = .ok (.ireturn, 1) := by decide +kernel
theorem dX4_faultOfSheet_0 : decode cX4_faultOfSheet 0 = .ok (.iload_n 1, 1) := by decide +kernel
theorem dX4_faultOfSheet_1 : decode cX4_faultOfSheet 1 = .ok (.invokestatic 204, 3) := by decide +kernel
theorem dX4_faultOfSheet_4 : decode cX4_faultOfSheet 4 = .ok (.ifCond .ne 5, 3) := by decide +kernel
theorem dX4_faultOfSheet_7 : decode cX4_faultOfSheet 7 = .ok (.iconst 0, 1) := by decide +kernel
theorem dX4_faultOfSheet_8 : decode cX4_faultOfSheet 8 = .ok (.ireturn, 1) := by decide +kernel
theorem dX4_faultOfSheet_9 : decode cX4_faultOfSheet 9 = .ok (.aload_n 0, 1) := by decide +kernel
theorem dX4_faultOfSheet_10 : decode cX4_faultOfSheet 10 = .ok (.getfield 31, 3) := by decide +kernel
theorem dX4_faultOfSheet_13 : decode cX4_faultOfSheet 13 = .ok (.iload_n 1, 1) := by decide +kernel
theorem dX4_faultOfSheet_14 : decode cX4_faultOfSheet 14 = .ok (.aaload, 1) := by decide +kernel
theorem dX4_faultOfSheet_15 : decode cX4_faultOfSheet 15 = .ok (.invokevirtual 215, 3) := by decide +kernel
theorem dX4_faultOfSheet_18 : decode cX4_faultOfSheet 18 = .ok (.ifCond .eq 7, 3) := by decide +kernel
theorem dX4_faultOfSheet_21 : decode cX4_faultOfSheet 21 = .ok (.iconst 5, 1) := by decide +kernel
theorem dX4_faultOfSheet_22 : decode cX4_faultOfSheet 22 = .ok (.goto 4, 3) := by decide +kernel
theorem dX4_faultOfSheet_25 : decode cX4_faultOfSheet 25 = .ok (.iconst (-1), 1) := by decide +kernel
theorem dX4_faultOfSheet_26 : decode cX4_faultOfSheet 26 = .ok (.ireturn, 1) := by decide +kernel
theorem dX4_faultOfTold_0 : decode cX4_faultOfTold 0 = .ok (.aload_n 0, 1) := by decide +kernel
theorem dX4_faultOfTold_1 : decode cX4_faultOfTold 1 = .ok (.iload_n 1, 1) := by decide +kernel
theorem dX4_faultOfTold_2 : decode cX4_faultOfTold 2 = .ok (.invokevirtual 211, 3) := by decide +kernel
theorem dX4_faultOfTold_5 : decode cX4_faultOfTold 5 = .ok (.istore_n 3, 1) := by decide +kernel
theorem dX4_faultOfTold_6 : decode cX4_faultOfTold 6 = .ok (.iload_n 3, 1) := by decide +kernel
theorem dX4_faultOfTold_7 : decode cX4_faultOfTold 7 = .ok (.iconst (-1), 1) := by decide +kernel
theorem dX4_faultOfTold_8 : decode cX4_faultOfTold 8 = .ok (.if_icmp .ne 13, 3) := by decide +kernel
theorem dX4_faultOfTold_11 : decode cX4_faultOfTold 11 = .ok (.aload_n 0, 1) := by decide +kernel
theorem dX4_faultOfTold_12 : decode cX4_faultOfTold 12 = .ok (.iload_n 2, 1) := by decide +kernel
theorem dX4_faultOfTold_13 : decode cX4_faultOfTold 13 = .ok (.invokevirtual 84, 3) := by decide +kernel
theorem dX4_faultOfTold_16 : decode cX4_faultOfTold 16 = .ok (.ifCond .ne 5, 3) := by decide +kernel
theorem dX4_faultOfTold_19 : decode cX4_faultOfTold 19 = .ok (.iconst 0, 1) := by decide +kernel
theorem dX4_faultOfTold_20 : decode cX4_faultOfTold 20 = .ok (.ireturn, 1) := by decide +kernel
theorem dX4_faultOfTold_21 : decode cX4_faultOfTold 21 = .ok (.iload_n 3, 1) := by decide +kernel
theorem dX4_faultOfTold_22 : decode cX4_faultOfTold 22 = .ok (.ireturn, 1) := by decide +kernel
theorem dX4_draftGoesAs_0 : decode cX4_draftGoesAs 0 = .ok (.iconst 0, 1) := by decide +kernel
theorem dX4_draftGoesAs_1 : decode cX4_draftGoesAs 1 = .ok (.istore_n 2, 1) := by decide +kernel
theorem dX4_draftGoesAs_2 : decode cX4_draftGoesAs 2 = .ok (.iload_n 2, 1) := by decide +kernel
theorem dX4_draftGoesAs_3 : decode cX4_draftGoesAs 3 = .ok (.aload_n 1, 1) := by decide +kernel
theorem dX4_draftGoesAs_4 : decode cX4_draftGoesAs 4 = .ok (.getfield 210, 3) := by decide +kernel
theorem dX4_draftGoesAs_7 : decode cX4_draftGoesAs 7 = .ok (.if_icmp .ge 53, 3) := by decide +kernel
theorem dX4_draftGoesAs_10 : decode cX4_draftGoesAs 10 = .ok (.iload_n 2, 1) := by decide +kernel
theorem dX4_draftGoesAs_11 : decode cX4_draftGoesAs 11 = .ok (.ifCond .le 10, 3) := by decide +kernel
theorem dX4_draftGoesAs_14 : decode cX4_draftGoesAs 14 = .ok (.aload_n 0, 1) := by decide +kernel
theorem dX4_draftGoesAs_15 : decode cX4_draftGoesAs 15 = .ok (.getfield 19, 3) := by decide +kernel
theorem dX4_draftGoesAs_18 : decode cX4_draftGoesAs 18 = .ok (.invokevirtual 149, 3) := by decide +kernel
theorem dX4_draftGoesAs_21 : decode cX4_draftGoesAs 21 = .ok (.aload_n 1, 1) := by decide +kernel
theorem dX4_draftGoesAs_22 : decode cX4_draftGoesAs 22 = .ok (.getfield 225, 3) := by decide +kernel
theorem dX4_draftGoesAs_25 : decode cX4_draftGoesAs 25 = .ok (.iload_n 2, 1) := by decide +kernel
theorem dX4_draftGoesAs_26 : decode cX4_draftGoesAs 26 = .ok (.iaload, 1) := by decide +kernel
theorem dX4_draftGoesAs_27 : decode cX4_draftGoesAs 27 = .ok (.iconst (-1), 1) := by decide +kernel
theorem dX4_draftGoesAs_28 : decode cX4_draftGoesAs 28 = .ok (.if_icmp .eq 26, 3) := by decide +kernel
theorem dX4_draftGoesAs_31 : decode cX4_draftGoesAs 31 = .ok (.aload_n 1, 1) := by decide +kernel
theorem dX4_draftGoesAs_32 : decode cX4_draftGoesAs 32 = .ok (.getfield 225, 3) := by decide +kernel
theorem dX4_draftGoesAs_35 : decode cX4_draftGoesAs 35 = .ok (.iload_n 2, 1) := by decide +kernel
theorem dX4_draftGoesAs_36 : decode cX4_draftGoesAs 36 = .ok (.iaload, 1) := by decide +kernel
theorem dX4_draftGoesAs_37 : decode cX4_draftGoesAs 37 = .ok (.aload_n 0, 1) := by decide +kernel
theorem dX4_draftGoesAs_38 : decode cX4_draftGoesAs 38 = .ok (.getfield 19, 3) := by decide +kernel
theorem dX4_draftGoesAs_41 : decode cX4_draftGoesAs 41 = .ok (.getfield 94, 3) := by decide +kernel
theorem dX4_draftGoesAs_44 : decode cX4_draftGoesAs 44 = .ok (.iconst 0, 1) := by decide +kernel
theorem dX4_draftGoesAs_45 : decode cX4_draftGoesAs 45 = .ok (.aaload, 1) := by decide +kernel
theorem dX4_draftGoesAs_46 : decode cX4_draftGoesAs 46 = .ok (.getfield 79, 3) := by decide +kernel
theorem dX4_draftGoesAs_49 : decode cX4_draftGoesAs 49 = .ok (.if_icmp .eq 5, 3) := by decide +kernel
theorem dX4_draftGoesAs_52 : decode cX4_draftGoesAs 52 = .ok (.iconst 0, 1) := by decide +kernel
theorem dX4_draftGoesAs_53 : decode cX4_draftGoesAs 53 = .ok (.ireturn, 1) := by decide +kernel
theorem dX4_draftGoesAs_54 : decode cX4_draftGoesAs 54 = .ok (.iinc 2 1, 3) := by decide +kernel
theorem dX4_draftGoesAs_57 : decode cX4_draftGoesAs 57 = .ok (.goto (-55), 3) := by decide +kernel
theorem dX4_draftGoesAs_60 : decode cX4_draftGoesAs 60 = .ok (.iconst 1, 1) := by decide +kernel
theorem dX4_draftGoesAs_61 : decode cX4_draftGoesAs 61 = .ok (.ireturn, 1) := by decide +kernel
theorem dX4_within_0 : decode cX4_within 0 = .ok (.iload_n 0, 1) := by decide +kernel
theorem dX4_within_1 : decode cX4_within 1 = .ok (.iload_n 1, 1) := by decide +kernel
theorem dX4_within_2 : decode cX4_within 2 = .ok (.if_icmp .lt 12, 3) := by decide +kernel
theorem dX4_within_5 : decode cX4_within 5 = .ok (.iload_n 0, 1) := by decide +kernel
theorem dX4_within_6 : decode cX4_within 6 = .ok (.iload_n 2, 1) := by decide +kernel
theorem dX4_within_7 : decode cX4_within 7 = .ok (.if_icmp .gt 7, 3) := by decide +kernel
theorem dX4_within_10 : decode cX4_within 10 = .ok (.iconst 1, 1) := by decide +kernel
theorem dX4_within_11 : decode cX4_within 11 = .ok (.goto 4, 3) := by decide +kernel
theorem dX4_within_14 : decode cX4_within 14 = .ok (.iconst 0, 1) := by decide +kernel
theorem dX4_within_15 : decode cX4_within 15 = .ok (.ireturn, 1) := by decide +kernel
theorem dX4_isPlace_0 : decode cX4_isPlace 0 = .ok (.iload_n 0, 1) := by decide +kernel
theorem dX4_isPlace_1 : decode cX4_isPlace 1 = .ok (.iconst 0, 1) := by decide +kernel
theorem dX4_isPlace_2 : decode cX4_isPlace 2 = .ok (.iconst 5, 1) := by decide +kernel
theorem dX4_isPlace_3 : decode cX4_isPlace 3 = .ok (.invokestatic 44, 3) := by decide +kernel
theorem dX4_isPlace_6 : decode cX4_isPlace 6 = .ok (.ireturn, 1) := by decide +kernel
theorem dX4_isDeed_0 : decode cX4_isDeed 0 = .ok (.iload_n 0, 1) := by decide +kernel
theorem dX4_isDeed_1 : decode cX4_isDeed 1 = .ok (.iconst 0, 1) := by decide +kernel
theorem dX4_isDeed_2 : decode cX4_isDeed 2 = .ok (.bipush 11, 2) := by decide +kernel
theorem dX4_isDeed_4 : decode cX4_isDeed 4 = .ok (.invokestatic 44, 3) := by decide +kernel
theorem dX4_isDeed_7 : decode cX4_isDeed 7 = .ok (.ireturn, 1) := by decide +kernel
theorem dX4_isKind_0 : decode cX4_isKind 0 = .ok (.iload_n 0, 1) := by decide +kernel
theorem dX4_isKind_1 : decode cX4_isKind 1 = .ok (.iconst 0, 1) := by decide +kernel
theorem dX4_isKind_2 : decode cX4_isKind 2 = .ok (.bipush 6, 2) := by decide +kernel
theorem dX4_isKind_4 : decode cX4_isKind 4 = .ok (.invokestatic 44, 3) := by decide +kernel
theorem dX4_isKind_7 : decode cX4_isKind 7 = .ok (.ireturn, 1) := by decide +kernel
theorem dX4_isSpot_0 : decode cX4_isSpot 0 = .ok (.iload_n 0, 1) := by decide +kernel
theorem dX4_isSpot_1 : decode cX4_isSpot 1 = .ok (.iconst 0, 1) := by decide +kernel
theorem dX4_isSpot_2 : decode cX4_isSpot 2 = .ok (.bipush 9, 2) := by decide +kernel
theorem dX4_isSpot_4 : decode cX4_isSpot 4 = .ok (.invokestatic 44, 3) := by decide +kernel
theorem dX4_isSpot_7 : decode cX4_isSpot 7 = .ok (.ireturn, 1) := by decide +kernel
theorem dX4_isSheet_0 : decode cX4_isSheet 0 = .ok (.iload_n 0, 1) := by decide +kernel
theorem dX4_isSheet_1 : decode cX4_isSheet 1 = .ok (.iconst 0, 1) := by decide +kernel
theorem dX4_isSheet_2 : decode cX4_isSheet 2 = .ok (.iconst 3, 1) := by decide +kernel
theorem dX4_isSheet_3 : decode cX4_isSheet 3 = .ok (.invokestatic 44, 3) := by decide +kernel
theorem dX4_isSheet_6 : decode cX4_isSheet 6 = .ok (.ireturn, 1) := by decide +kernel
theorem dX4_mostOf_0 : decode cX4_mostOf 0 = .ok (.iload_n 0, 1) := by decide +kernel
theorem dX4_mostOf_1 : decode cX4_mostOf 1 = .ok (.tableswitch 52 0 5 #[39, 42, 45, 52, 52, 48], 39) := by decide +kernel
theorem dX4_mostOf_40 : decode cX4_mostOf 40 = .ok (.bipush 6, 2) := by decide +kernel
theorem dX4_mostOf_42 : decode cX4_mostOf 42 = .ok (.ireturn, 1) := by decide +kernel
theorem dX4_mostOf_43 : decode cX4_mostOf 43 = .ok (.bipush 99, 2) := by decide +kernel
theorem dX4_mostOf_45 : decode cX4_mostOf 45 = .ok (.ireturn, 1) := by decide +kernel
theorem dX4_mostOf_46 : decode cX4_mostOf 46 = .ok (.bipush 99, 2) := by decide +kernel
theorem dX4_mostOf_48 : decode cX4_mostOf 48 = .ok (.ireturn, 1) := by decide +kernel
theorem dX4_mostOf_49 : decode cX4_mostOf 49 = .ok (.sipush 9999, 3) := by decide +kernel
theorem dX4_mostOf_52 : decode cX4_mostOf 52 = .ok (.ireturn, 1) := by decide +kernel
theorem dX4_mostOf_53 : decode cX4_mostOf 53 = .ok (.iconst 1, 1) := by decide +kernel
theorem dX4_mostOf_54 : decode cX4_mostOf 54 = .ok (.ireturn, 1) := by decide +kernel
theorem dX4_grudgeAfter_0 : decode cX4_grudgeAfter 0 = .ok (.iconst 0, 1) := by decide +kernel
theorem dX4_grudgeAfter_1 : decode cX4_grudgeAfter 1 = .ok (.bipush 99, 2) := by decide +kernel
theorem dX4_grudgeAfter_3 : decode cX4_grudgeAfter 3 = .ok (.iload_n 0, 1) := by decide +kernel
theorem dX4_grudgeAfter_4 : decode cX4_grudgeAfter 4 = .ok (.getstatic 243, 3) := by decide +kernel
theorem dX4_grudgeAfter_7 : decode cX4_grudgeAfter 7 = .ok (.iload_n 1, 1) := by decide +kernel
theorem dX4_grudgeAfter_8 : decode cX4_grudgeAfter 8 = .ok (.iaload, 1) := by decide +kernel
theorem dX4_grudgeAfter_9 : decode cX4_grudgeAfter 9 = .ok (.iadd, 1) := by decide +kernel
theorem dX4_grudgeAfter_10 : decode cX4_grudgeAfter 10 = .ok (.invokestatic 246, 3) := by decide +kernel
theorem dX4_grudgeAfter_13 : decode cX4_grudgeAfter 13 = .ok (.invokestatic 251, 3) := by decide +kernel
theorem dX4_grudgeAfter_16 : decode cX4_grudgeAfter 16 = .ok (.ireturn, 1) := by decide +kernel
theorem dX4_isUnder_0 : decode cX4_isUnder 0 = .ok (.iload_n 0, 1) := by decide +kernel
theorem dX4_isUnder_1 : decode cX4_isUnder 1 = .ok (.istore_n 2, 1) := by decide +kernel
theorem dX4_isUnder_2 : decode cX4_isUnder 2 = .ok (.iconst 0, 1) := by decide +kernel
theorem dX4_isUnder_3 : decode cX4_isUnder 3 = .ok (.istore_n 3, 1) := by decide +kernel
theorem dX4_isUnder_4 : decode cX4_isUnder 4 = .ok (.iload_n 3, 1) := by decide +kernel
theorem dX4_isUnder_5 : decode cX4_isUnder 5 = .ok (.bipush 7, 2) := by decide +kernel
theorem dX4_isUnder_7 : decode cX4_isUnder 7 = .ok (.if_icmp .ge 26, 3) := by decide +kernel
theorem dX4_isUnder_10 : decode cX4_isUnder 10 = .ok (.iload_n 2, 1) := by decide +kernel
theorem dX4_isUnder_11 : decode cX4_isUnder 11 = .ok (.ifCond .lt 22, 3) := by decide +kernel
theorem dX4_isUnder_14 : decode cX4_isUnder 14 = .ok (.iload_n 2, 1) := by decide +kernel
theorem dX4_isUnder_15 : decode cX4_isUnder 15 = .ok (.iload_n 1, 1) := by decide +kernel
theorem dX4_isUnder_16 : decode cX4_isUnder 16 = .ok (.if_icmp .ne 5, 3) := by decide +kernel
theorem dX4_isUnder_19 : decode cX4_isUnder 19 = .ok (.iconst 1, 1) := by decide +kernel
theorem dX4_isUnder_20 : decode cX4_isUnder 20 = .ok (.ireturn, 1) := by decide +kernel
theorem dX4_isUnder_21 : decode cX4_isUnder 21 = .ok (.getstatic 254, 3) := by decide +kernel
theorem dX4_isUnder_24 : decode cX4_isUnder 24 = .ok (.iload_n 2, 1) := by decide +kernel
theorem dX4_isUnder_25 : decode cX4_isUnder 25 = .ok (.iaload, 1) := by decide +kernel
theorem dX4_isUnder_26 : decode cX4_isUnder 26 = .ok (.istore_n 2, 1) := by decide +kernel
theorem dX4_isUnder_27 : decode cX4_isUnder 27 = .ok (.iinc 3 1, 3) := by decide +kernel
theorem dX4_isUnder_30 : decode cX4_isUnder 30 = .ok (.goto (-26), 3) := by decide +kernel
theorem dX4_isUnder_33 : decode cX4_isUnder 33 = .ok (.iconst 0, 1) := by decide +kernel
theorem dX4_isUnder_34 : decode cX4_isUnder 34 = .ok (.ireturn, 1) := by decide +kernel
theorem dX4_commonDivisor_0 : decode cX4_commonDivisor 0 = .ok (.iload_n 1, 1) := by decide +kernel
theorem dX4_commonDivisor_1 : decode cX4_commonDivisor 1 = .ok (.istore_n 2, 1) := by decide +kernel
theorem dX4_commonDivisor_2 : decode cX4_commonDivisor 2 = .ok (.iload_n 2, 1) := by decide +kernel
theorem dX4_commonDivisor_3 : decode cX4_commonDivisor 3 = .ok (.iconst 1, 1) := by decide +kernel
theorem dX4_commonDivisor_4 : decode cX4_commonDivisor 4 = .ok (.if_icmp .le 23, 3) := by decide +kernel
theorem dX4_commonDivisor_7 : decode cX4_commonDivisor 7 = .ok (.iload_n 0, 1) := by decide +kernel
theorem dX4_commonDivisor_8 : decode cX4_commonDivisor 8 = .ok (.iload_n 2, 1) := by decide +kernel
theorem dX4_commonDivisor_9 : decode cX4_commonDivisor 9 = .ok (.irem, 1) := by decide +kernel
theorem dX4_commonDivisor_10 : decode cX4_commonDivisor 10 = .ok (.ifCond .ne 11, 3) := by decide +kernel
theorem dX4_commonDivisor_13 : decode cX4_commonDivisor 13 = .ok (.iload_n 1, 1) := by decide +kernel
theorem dX4_commonDivisor_14 : decode cX4_commonDivisor 14 = .ok (.iload_n 2, 1) := by decide +kernel
theorem dX4_commonDivisor_15 : decode cX4_commonDivisor 15 = .ok (.irem, 1) := by decide +kernel
theorem dX4_commonDivisor_16 : decode cX4_commonDivisor 16 = .ok (.ifCond .ne 5, 3) := by decide +kernel
theorem dX4_commonDivisor_19 : decode cX4_commonDivisor 19 = .ok (.iload_n 2, 1) := by decide +kernel
theorem dX4_commonDivisor_20 : decode cX4_commonDivisor 20 = .ok (.ireturn, 1) := by decide +kernel
theorem dX4_commonDivisor_21 : decode cX4_commonDivisor 21 = .ok (.iinc 2 (-1), 3) := by decide +kernel
theorem dX4_commonDivisor_24 : decode cX4_commonDivisor 24 = .ok (.goto (-22), 3) := by decide +kernel
theorem dX4_commonDivisor_27 : decode cX4_commonDivisor 27 = .ok (.iconst 1, 1) := by decide +kernel
theorem dX4_commonDivisor_28 : decode cX4_commonDivisor 28 = .ok (.ireturn, 1) := by decide +kernel
theorem dX4_power_0 : decode cX4_power 0 = .ok (.lconst 1, 1) := by decide +kernel
theorem dX4_power_1 : decode cX4_power 1 = .ok (.lstore_n 2, 1) := by decide +kernel
theorem dX4_power_2 : decode cX4_power 2 = .ok (.iconst 0, 1) := by decide +kernel
theorem dX4_power_3 : decode cX4_power 3 = .ok (.istore 4, 2) := by decide +kernel
theorem dX4_power_5 : decode cX4_power 5 = .ok (.iload 4, 2) := by decide +kernel
theorem dX4_power_7 : decode cX4_power 7 = .ok (.iload_n 1, 1) := by decide +kernel
theorem dX4_power_8 : decode cX4_power 8 = .ok (.if_icmp .ge 14, 3) := by decide +kernel
theorem dX4_power_11 : decode cX4_power 11 = .ok (.lload_n 2, 1) := by decide +kernel
theorem dX4_power_12 : decode cX4_power 12 = .ok (.iload_n 0, 1) := by decide +kernel
theorem dX4_power_13 : decode cX4_power 13 = .ok (.i2l, 1) := by decide +kernel
theorem dX4_power_14 : decode cX4_power 14 = .ok (.lmul, 1) := by decide +kernel
theorem dX4_power_15 : decode cX4_power 15 = .ok (.lstore_n 2, 1) := by decide +kernel
theorem dX4_power_16 : decode cX4_power 16 = .ok (.iinc 4 1, 3) := by decide +kernel
theorem dX4_power_19 : decode cX4_power 19 = .ok (.goto (-14), 3) := by decide +kernel
theorem dX4_power_22 : decode cX4_power 22 = .ok (.lload_n 2, 1) := by decide +kernel
theorem dX4_power_23 : decode cX4_power 23 = .ok (.lreturn, 1) := by decide +kernel
end
section
theorem dX5_init_0 : decode cX5_init 0 = .ok (.aload_n 0, 1) := by decide +kernel
theorem dX5_init_1 : decode cX5_init 1 = .ok (.invokespecial 3, 3) := by decide +kernel
theorem dX5_init_4 : decode cX5_init 4 = .ok (.aload_n 0, 1) := by decide +kernel
theorem dX5_init_5 : decode cX5_init 5 = .ok (.bipush 70, 2) := by decide +kernel
theorem dX5_init_7 : decode cX5_init 7 = .ok (.newarray .int, 2) := by decide +kernel
theorem dX5_init_9 : decode cX5_init 9 = .ok (.putfield 9, 3) := by decide +kernel
theorem dX5_init_12 : decode cX5_init 12 = .ok (.aload_n 0, 1) := by decide +kernel
theorem dX5_init_13 : decode cX5_init 13 = .ok (.bipush 70, 2) := by decide +kernel
theorem dX5_init_15 : decode cX5_init 15 = .ok (.newarray .int, 2) := by decide +kernel
theorem dX5_init_17 : decode cX5_init 17 = .ok (.putfield 13, 3) := by decide +kernel
theorem dX5_init_20 : decode cX5_init 20 = .ok (.aload_n 0, 1) := by decide +kernel
theorem dX5_init_21 : decode cX5_init 21 = .ok (.bipush 70, 2) := by decide +kernel
theorem dX5_init_23 : decode cX5_init 23 = .ok (.newarray .int, 2) := by decide +kernel
theorem dX5_init_25 : decode cX5_init 25 = .ok (.putfield 16, 3) := by decide +kernel
theorem dX5_init_28 : decode cX5_init 28 = .ok (.aload_n 0, 1) := by decide +kernel
theorem dX5_init_29 : decode cX5_init 29 = .ok (.bipush 7, 2) := by decide +kernel
theorem dX5_init_31 : decode cX5_init 31 = .ok (.newarray .int, 2) := by decide +kernel
theorem dX5_init_33 : decode cX5_init 33 = .ok (.putfield 19, 3) := by decide +kernel
theorem dX5_init_36 : decode cX5_init 36 = .ok (.aload_n 0, 1) := by decide +kernel
theorem dX5_init_37 : decode cX5_init 37 = .ok (.iconst 4, 1) := by decide +kernel
theorem dX5_init_38 : decode cX5_init 38 = .ok (.newarray .int, 2) := by decide +kernel
theorem dX5_init_40 : decode cX5_init 40 = .ok (.putfield 22, 3) := by decide +kernel
theorem dX5_init_43 : decode cX5_init 43 = .ok (.aload_n 0, 1) := by decide +kernel
theorem dX5_init_44 : decode cX5_init 44 = .ok (.iconst 4, 1) := by decide +kernel
theorem dX5_init_45 : decode cX5_init 45 = .ok (.newarray .int, 2) := by decide +kernel
theorem dX5_init_47 : decode cX5_init 47 = .ok (.putfield 25, 3) := by decide +kernel
theorem dX5_init_50 : decode cX5_init 50 = .ok (.aload_n 0, 1) := by decide +kernel
theorem dX5_init_51 : decode cX5_init 51 = .ok (.sipush 160, 3) := by decide +kernel
theorem dX5_init_54 : decode cX5_init 54 = .ok (.newarray .int, 2) := by decide +kernel
theorem dX5_init_56 : decode cX5_init 56 = .ok (.putfield 28, 3) := by decide +kernel
theorem dX5_init_59 : decode cX5_init 59 = .ok (.aload_n 0, 1) := by decide +kernel
theorem dX5_init_60 : decode cX5_init 60 = .ok (.bipush 120, 2) := by decide +kernel
theorem dX5_init_62 : decode cX5_init 62 = .ok (.newarray .int, 2) := by decide +kernel
theorem dX5_init_64 : decode cX5_init 64 = .ok (.putfield 31, 3) := by decide +kernel
theorem dX5_init_67 : decode cX5_init 67 = .ok (.aload_n 0, 1) := by decide +kernel
theorem dX5_init_68 : decode cX5_init 68 = .ok (.getfield 9, 3) := by decide +kernel
theorem dX5_init_71 : decode cX5_init 71 = .ok (.iconst 1, 1) := by decide +kernel
theorem dX5_init_72 : decode cX5_init 72 = .ok (.bipush 50, 2) := by decide +kernel
theorem dX5_init_74 : decode cX5_init 74 = .ok (.iastore, 1) := by decide +kernel
theorem dX5_init_75 : decode cX5_init 75 = .ok (.aload_n 0, 1) := by decide +kernel
theorem dX5_init_76 : decode cX5_init 76 = .ok (.getfield 9, 3) := by decide +kernel
theorem dX5_init_79 : decode cX5_init 79 = .ok (.iconst 2, 1) := by decide +kernel
theorem dX5_init_80 : decode cX5_init 80 = .ok (.iconst 3, 1) := by decide +kernel
theorem dX5_init_81 : decode cX5_init 81 = .ok (.iastore, 1) := by decide +kernel
theorem dX5_init_82 : decode cX5_init 82 = .ok (.aload_n 0, 1) := by decide +kernel
theorem dX5_init_83 : decode cX5_init 83 = .ok (.getfield 9, 3) := by decide +kernel
theorem dX5_init_86 : decode cX5_init 86 = .ok (.iconst 4, 1) := by decide +kernel
theorem dX5_init_87 : decode cX5_init 87 = .ok (.iconst 1, 1) := by decide +kernel
theorem dX5_init_88 : decode cX5_init 88 = .ok (.iastore, 1) := by decide +kernel
theorem dX5_init_89 : decode cX5_init 89 = .ok (.bipush 60, 2) := by decide +kernel
theorem dX5_init_91 : decode cX5_init 91 = .ok (.istore_n 1, 1) := by decide +kernel
theorem dX5_init_92 : decode cX5_init 92 = .ok (.iload_n 1, 1) := by decide +kernel
theorem dX5_init_93 : decode cX5_init 93 = .ok (.bipush 70, 2) := by decide +kernel
theorem dX5_init_95 : decode cX5_init 95 = .ok (.if_icmp .ge 16, 3) := by decide +kernel
theorem dX5_init_98 : decode cX5_init 98 = .ok (.aload_n 0, 1) := by decide +kernel
theorem dX5_init_99 : decode cX5_init 99 = .ok (.getfield 9, 3) := by decide +kernel
theorem dX5_init_102 : decode cX5_init 102 = .ok (.iload_n 1, 1) := by decide +kernel
theorem dX5_init_103 : decode cX5_init 103 = .ok (.iconst (-1), 1) := by decide +kernel
theorem dX5_init_104 : decode cX5_init 104 = .ok (.iastore, 1) := by decide +kernel
theorem dX5_init_105 : decode cX5_init 105 = .ok (.iinc 1 1, 3) := by decide +kernel
theorem dX5_init_108 : decode cX5_init 108 = .ok (.goto (-16), 3) := by decide +kernel
theorem dX5_init_111 : decode cX5_init 111 = .ok (.return_, 1) := by decide +kernel
theorem dX5_finds_0 : decode cX5_finds 0 = .ok (.aload_n 0, 1) := by decide +kernel
theorem dX5_finds_1 : decode cX5_finds 1 = .ok (.getfield 19, 3) := by decide +kernel
theorem dX5_finds_4 : decode cX5_finds 4 = .ok (.ldc 34, 2) := by decide +kernel
theorem dX5_finds_6 : decode cX5_finds 6 = .ok (.iload_n 1, 1) := by decide +kernel
theorem dX5_finds_7 : decode cX5_finds 7 = .ok (.isub, 1) := by decide +kernel
theorem dX5_finds_8 : decode cX5_finds 8 = .ok (.dup2, 1) := by decide +kernel
theorem dX5_finds_9 : decode cX5_finds 9 = .ok (.iaload, 1) := by decide +kernel
theorem dX5_finds_10 : decode cX5_finds 10 = .ok (.iconst 1, 1) := by decide +kernel
theorem dX5_finds_11 : decode cX5_finds 11 = .ok (.iadd, 1) := by decide +kernel
theorem dX5_finds_12 : decode cX5_finds 12 = .ok (.iastore, 1) := by decide +kernel
theorem dX5_finds_13 : decode cX5_finds 13 = .ok (.iload_n 1, 1) := by decide +kernel
theorem dX5_finds_14 : decode cX5_finds 14 = .ok (.ireturn, 1) := by decide +kernel
theorem dX5_orNone_0 : decode cX5_orNone 0 = .ok (.iload_n 1, 1) := by decide +kernel
theorem dX5_orNone_1 : decode cX5_orNone 1 = .ok (.ifCond .ge 12, 3) := by decide +kernel
theorem dX5_orNone_4 : decode cX5_orNone 4 = .ok (.aload_n 0, 1) := by decide +kernel
theorem dX5_orNone_5 : decode cX5_orNone 5 = .ok (.ldc 35, 2) := by decide +kernel
theorem dX5_orNone_7 : decode cX5_orNone 7 = .ok (.invokevirtual 36, 3) := by decide +kernel
theorem dX5_orNone_10 : decode cX5_orNone 10 = .ok (.goto 4, 3) := by decide +kernel
theorem dX5_orNone_13 : decode cX5_orNone 13 = .ok (.iload_n 1, 1) := by decide +kernel
theorem dX5_orNone_14 : decode cX5_orNone 14 = .ok (.ireturn, 1) := by decide +kernel
theorem dX5_in_0 : decode cX5_in 0 = .ok (.iload_n 0, 1) := by decide +kernel
theorem dX5_in_1 : decode cX5_in 1 = .ok (.iload_n 1, 1) := by decide +kernel
theorem dX5_in_2 : decode cX5_in 2 = .ok (.if_icmp .lt 12, 3) := by decide +kernel
theorem dX5_in_5 : decode cX5_in 5 = .ok (.iload_n 0, 1) := by decide +kernel
theorem dX5_in_6 : decode cX5_in 6 = .ok (.iload_n 2, 1) := by decide +kernel
theorem dX5_in_7 : decode cX5_in 7 = .ok (.if_icmp .gt 7, 3) := by decide +kernel
theorem dX5_in_10 : decode cX5_in 10 = .ok (.iconst 1, 1) := by decide +kernel
theorem dX5_in_11 : decode cX5_in 11 = .ok (.goto 4, 3) := by decide +kernel
theorem dX5_in_14 : decode cX5_in 14 = .ok (.iconst 0, 1) := by decide +kernel
theorem dX5_in_15 : decode cX5_in 15 = .ok (.ireturn, 1) := by decide +kernel
theorem dX5_held_0 : decode cX5_held 0 = .ok (.iload_n 0, 1) := by decide +kernel
theorem dX5_held_1 : decode cX5_held 1 = .ok (.iload_n 1, 1) := by decide +kernel
theorem dX5_held_2 : decode cX5_held 2 = .ok (.if_icmp .ge 7, 3) := by decide +kernel
theorem dX5_held_5 : decode cX5_held 5 = .ok (.iload_n 1, 1) := by decide +kernel
theorem dX5_held_6 : decode cX5_held 6 = .ok (.goto 13, 3) := by decide +kernel
theorem dX5_held_9 : decode cX5_held 9 = .ok (.iload_n 0, 1) := by decide +kernel
theorem dX5_held_10 : decode cX5_held 10 = .ok (.iload_n 2, 1) := by decide +kernel
theorem dX5_held_11 : decode cX5_held 11 = .ok (.if_icmp .le 7, 3) := by decide +kernel
theorem dX5_held_14 : decode cX5_held 14 = .ok (.iload_n 2, 1) := by decide +kernel
theorem dX5_held_15 : decode cX5_held 15 = .ok (.goto 4, 3) := by decide +kernel
theorem dX5_held_18 : decode cX5_held 18 = .ok (.iload_n 0, 1) := by decide +kernel
theorem dX5_held_19 : decode cX5_held 19 = .ok (.ireturn, 1) := by decide +kernel
theorem dX5_copyAll_0 : decode cX5_copyAll 0 = .ok (.iconst 0, 1) := by decide +kernel
theorem dX5_copyAll_1 : decode cX5_copyAll 1 = .ok (.istore_n 2, 1) := by decide +kernel
theorem dX5_copyAll_2 : decode cX5_copyAll 2 = .ok (.iload_n 2, 1) := by decide +kernel
theorem dX5_copyAll_3 : decode cX5_copyAll 3 = .ok (.bipush 70, 2) := by decide +kernel
theorem dX5_copyAll_5 : decode cX5_copyAll 5 = .ok (.if_icmp .ge 15, 3) := by decide +kernel
theorem dX5_copyAll_8 : decode cX5_copyAll 8 = .ok (.aload_n 1, 1) := by decide +kernel
theorem dX5_copyAll_9 : decode cX5_copyAll 9 = .ok (.iload_n 2, 1) := by decide +kernel
theorem dX5_copyAll_10 : decode cX5_copyAll 10 = .ok (.aload_n 0, 1) := by decide +kernel
theorem dX5_copyAll_11 : decode cX5_copyAll 11 = .ok (.iload_n 2, 1) := by decide +kernel
theorem dX5_copyAll_12 : decode cX5_copyAll 12 = .ok (.iaload, 1) := by decide +kernel
theorem dX5_copyAll_13 : decode cX5_copyAll 13 = .ok (.iastore, 1) := by decide +kernel
theorem dX5_copyAll_14 : decode cX5_copyAll 14 = .ok (.iinc 2 1, 3) := by decide +kernel
theorem dX5_copyAll_17 : decode cX5_copyAll 17 = .ok (.goto (-15), 3) := by decide +kernel
theorem dX5_copyAll_20 : decode cX5_copyAll 20 = .ok (.return_, 1) := by decide +kernel
theorem dX5_becomes_0 : decode cX5_becomes 0 = .ok (.aload_n 0, 1) := by decide +kernel
theorem dX5_becomes_1 : decode cX5_becomes 1 = .ok (.getfield 9, 3) := by decide +kernel
theorem dX5_becomes_4 : decode cX5_becomes 4 = .ok (.iload_n 1, 1) := by decide +kernel
theorem dX5_becomes_5 : decode cX5_becomes 5 = .ok (.iaload, 1) := by decide +kernel
theorem dX5_becomes_6 : decode cX5_becomes 6 = .ok (.istore_n 3, 1) := by decide +kernel
theorem dX5_becomes_7 : decode cX5_becomes 7 = .ok (.aload_n 0, 1) := by decide +kernel
theorem dX5_becomes_8 : decode cX5_becomes 8 = .ok (.getfield 9, 3) := by decide +kernel
theorem dX5_becomes_11 : decode cX5_becomes 11 = .ok (.iload_n 1, 1) := by decide +kernel
theorem dX5_becomes_12 : decode cX5_becomes 12 = .ok (.iload_n 2, 1) := by decide +kernel
theorem dX5_becomes_13 : decode cX5_becomes 13 = .ok (.iastore, 1) := by decide +kernel
theorem dX5_becomes_14 : decode cX5_becomes 14 = .ok (.iload_n 3, 1) := by decide +kernel
theorem dX5_becomes_15 : decode cX5_becomes 15 = .ok (.ireturn, 1) := by decide +kernel
theorem dX5_isDish_0 : decode cX5_isDish 0 = .ok (.iload_n 1, 1) := by decide +kernel
theorem dX5_isDish_1 : decode cX5_isDish 1 = .ok (.iconst 0, 1) := by decide +kernel
theorem dX5_isDish_2 : decode cX5_isDish 2 = .ok (.aload_n 0, 1) := by decide +kernel
theorem dX5_isDish_3 : decode cX5_isDish 3 = .ok (.getfield 9, 3) := by decide +kernel
theorem dX5_isDish_6 : decode cX5_isDish 6 = .ok (.iconst 5, 1) := by decide +kernel
theorem dX5_isDish_7 : decode cX5_isDish 7 = .ok (.iaload, 1) := by decide +kernel
theorem dX5_isDish_8 : decode cX5_isDish 8 = .ok (.iconst 1, 1) := by decide +kernel
theorem dX5_isDish_9 : decode cX5_isDish 9 = .ok (.isub, 1) := by decide +kernel
theorem dX5_isDish_10 : decode cX5_isDish 10 = .ok (.invokestatic 40, 3) := by decide +kernel
theorem dX5_isDish_13 : decode cX5_isDish 13 = .ok (.ireturn, 1) := by decide +kernel
theorem dX5_isDeed_0 : decode cX5_isDeed 0 = .ok (.iload_n 0, 1) := by decide +kernel
theorem dX5_isDeed_1 : decode cX5_isDeed 1 = .ok (.iconst 0, 1) := by decide +kernel
theorem dX5_isDeed_2 : decode cX5_isDeed 2 = .ok (.bipush 11, 2) := by decide +kernel
theorem dX5_isDeed_4 : decode cX5_isDeed 4 = .ok (.invokestatic 40, 3) := by decide +kernel
theorem dX5_isDeed_7 : decode cX5_isDeed 7 = .ok (.ireturn, 1) := by decide +kernel
theorem dX5_it_0 : decode cX5_it 0 = .ok (.aload_n 0, 1) := by decide +kernel
theorem dX5_it_1 : decode cX5_it 1 = .ok (.getfield 9, 3) := by decide +kernel
theorem dX5_it_4 : decode cX5_it 4 = .ok (.bipush 12, 2) := by decide +kernel
theorem dX5_it_6 : decode cX5_it 6 = .ok (.bipush 6, 2) := by decide +kernel
theorem dX5_it_8 : decode cX5_it 8 = .ok (.iload_n 1, 1) := by decide +kernel
theorem dX5_it_9 : decode cX5_it 9 = .ok (.imul, 1) := by decide +kernel
theorem dX5_it_10 : decode cX5_it 10 = .ok (.iadd, 1) := by decide +kernel
theorem dX5_it_11 : decode cX5_it 11 = .ok (.iload_n 2, 1) := by decide +kernel
theorem dX5_it_12 : decode cX5_it 12 = .ok (.iadd, 1) := by decide +kernel
theorem dX5_it_13 : decode cX5_it 13 = .ok (.iaload, 1) := by decide +kernel
theorem dX5_it_14 : decode cX5_it 14 = .ok (.ireturn, 1) := by decide +kernel
theorem dX5_put_0 : decode cX5_put 0 = .ok (.aload_n 0, 1) := by decide +kernel
theorem dX5_put_1 : decode cX5_put 1 = .ok (.getfield 9, 3) := by decide +kernel
theorem dX5_put_4 : decode cX5_put 4 = .ok (.bipush 12, 2) := by decide +kernel
theorem dX5_put_6 : decode cX5_put 6 = .ok (.bipush 6, 2) := by decide +kernel
theorem dX5_put_8 : decode cX5_put 8 = .ok (.iload_n 1, 1) := by decide +kernel
theorem dX5_put_9 : decode cX5_put 9 = .ok (.imul, 1) := by decide +kernel
theorem dX5_put_10 : decode cX5_put 10 = .ok (.iadd, 1) := by decide +kernel
theorem dX5_put_11 : decode cX5_put 11 = .ok (.iload_n 2, 1) := by decide +kernel
theorem dX5_put_12 : decode cX5_put 12 = .ok (.iadd, 1) := by decide +kernel
theorem dX5_put_13 : decode cX5_put 13 = .ok (.iload_n 3, 1) := by decide +kernel
theorem dX5_put_14 : decode cX5_put 14 = .ok (.iastore, 1) := by decide +kernel
theorem dX5_put_15 : decode cX5_put 15 = .ok (.return_, 1) := by decide +kernel
theorem dX5_bits_0 : decode cX5_bits 0 = .ok (.iconst 0, 1) := by decide +kernel
theorem dX5_bits_1 : decode cX5_bits 1 = .ok (.istore_n 1, 1) := by decide +kernel
theorem dX5_bits_2 : decode cX5_bits 2 = .ok (.iload_n 0, 1) := by decide +kernel
theorem dX5_bits_3 : decode cX5_bits 3 = .ok (.istore_n 2, 1) := by decide +kernel
theorem dX5_bits_4 : decode cX5_bits 4 = .ok (.iload_n 2, 1) := by decide +kernel
theorem dX5_bits_5 : decode cX5_bits 5 = .ok (.ifCond .eq 15, 3) := by decide +kernel
theorem dX5_bits_8 : decode cX5_bits 8 = .ok (.iinc 1 1, 3) := by decide +kernel
theorem dX5_bits_11 : decode cX5_bits 11 = .ok (.iload_n 2, 1) := by decide +kernel
theorem dX5_bits_12 : decode cX5_bits 12 = .ok (.iload_n 2, 1) := by decide +kernel
theorem dX5_bits_13 : decode cX5_bits 13 = .ok (.iconst 1, 1) := by decide +kernel
theorem dX5_bits_14 : decode cX5_bits 14 = .ok (.isub, 1) := by decide +kernel
theorem dX5_bits_15 : decode cX5_bits 15 = .ok (.iand, 1) := by decide +kernel
theorem dX5_bits_16 : decode cX5_bits 16 = .ok (.istore_n 2, 1) := by decide +kernel
theorem dX5_bits_17 : decode cX5_bits 17 = .ok (.goto (-13), 3) := by decide +kernel
theorem dX5_bits_20 : decode cX5_bits 20 = .ok (.iload_n 1, 1) := by decide +kernel
theorem dX5_bits_21 : decode cX5_bits 21 = .ok (.ireturn, 1) := by decide +kernel
theorem dX5_setOf_0 : decode cX5_setOf 0 = .ok (.iconst 0, 1) := by decide +kernel
theorem dX5_setOf_1 : decode cX5_setOf 1 = .ok (.istore_n 2, 1) := by decide +kernel
theorem dX5_setOf_2 : decode cX5_setOf 2 = .ok (.iconst 0, 1) := by decide +kernel
theorem dX5_setOf_3 : decode cX5_setOf 3 = .ok (.istore_n 3, 1) := by decide +kernel
theorem dX5_setOf_4 : decode cX5_setOf 4 = .ok (.iload_n 3, 1) := by decide +kernel
theorem dX5_setOf_5 : decode cX5_setOf 5 = .ok (.aload_n 0, 1) := by decide +kernel
theorem dX5_setOf_6 : decode cX5_setOf 6 = .ok (.getfield 9, 3) := by decide +kernel
theorem dX5_setOf_9 : decode cX5_setOf 9 = .ok (.iconst 5, 1) := by decide +kernel
theorem dX5_setOf_10 : decode cX5_setOf 10 = .ok (.iaload, 1) := by decide +kernel
theorem dX5_setOf_11 : decode cX5_setOf 11 = .ok (.if_icmp .ge 20, 3) := by decide +kernel
theorem dX5_setOf_14 : decode cX5_setOf 14 = .ok (.iload_n 2, 1) := by decide +kernel
theorem dX5_setOf_15 : decode cX5_setOf 15 = .ok (.aload_n 0, 1) := by decide +kernel
theorem dX5_setOf_16 : decode cX5_setOf 16 = .ok (.iload_n 3, 1) := by decide +kernel
theorem dX5_setOf_17 : decode cX5_setOf 17 = .ok (.iload_n 1, 1) := by decide +kernel
theorem dX5_setOf_18 : decode cX5_setOf 18 = .ok (.invokevirtual 44, 3) := by decide +kernel
theorem dX5_setOf_21 : decode cX5_setOf 21 = .ok (.iload_n 3, 1) := by decide +kernel
theorem dX5_setOf_22 : decode cX5_setOf 22 = .ok (.ishl, 1) := by decide +kernel
theorem dX5_setOf_23 : decode cX5_setOf 23 = .ok (.ior, 1) := by decide +kernel
theorem dX5_setOf_24 : decode cX5_setOf 24 = .ok (.istore_n 2, 1) := by decide +kernel
theorem dX5_setOf_25 : decode cX5_setOf 25 = .ok (.iinc 3 1, 3) := by decide +kernel
theorem dX5_setOf_28 : decode cX5_setOf 28 = .ok (.goto (-24), 3) := by decide +kernel
theorem dX5_setOf_31 : decode cX5_setOf 31 = .ok (.iload_n 2, 1) := by decide +kernel
theorem dX5_setOf_32 : decode cX5_setOf 32 = .ok (.ireturn, 1) := by decide +kernel
theorem dX5_deedNow_0 : decode cX5_deedNow 0 = .ok (.aload_n 0, 1) := by decide +kernel
theorem dX5_deedNow_1 : decode cX5_deedNow 1 = .ok (.getfield 9, 3) := by decide +kernel
theorem dX5_deedNow_4 : decode cX5_deedNow 4 = .ok (.bipush 6, 2) := by decide +kernel
theorem dX5_deedNow_6 : decode cX5_deedNow 6 = .ok (.aload_n 0, 1) := by decide +kernel
theorem dX5_deedNow_7 : decode cX5_deedNow 7 = .ok (.getfield 9, 3) := by decide +kernel
theorem dX5_deedNow_10 : decode cX5_deedNow 10 = .ok (.iconst 0, 1) := by decide +kernel
theorem dX5_deedNow_11 : decode cX5_deedNow 11 = .ok (.iaload, 1) := by decide +kernel
theorem dX5_deedNow_12 : decode cX5_deedNow 12 = .ok (.bipush 6, 2) := by decide +kernel
theorem dX5_deedNow_14 : decode cX5_deedNow 14 = .ok (.irem, 1) := by decide +kernel
theorem dX5_deedNow_15 : decode cX5_deedNow 15 = .ok (.iadd, 1) := by decide +kernel
theorem dX5_deedNow_16 : decode cX5_deedNow 16 = .ok (.iaload, 1) := by decide +kernel
theorem dX5_deedNow_17 : decode cX5_deedNow 17 = .ok (.ireturn, 1) := by decide +kernel
theorem dX5_needs_0 : decode cX5_needs 0 = .ok (.aload_n 0, 1) := by decide +kernel
theorem dX5_needs_1 : decode cX5_needs 1 = .ok (.iload_n 1, 1) := by decide +kernel
theorem dX5_needs_2 : decode cX5_needs 2 = .ok (.iconst 0, 1) := by decide +kernel
theorem dX5_needs_3 : decode cX5_needs 3 = .ok (.invokevirtual 44, 3) := by decide +kernel
theorem dX5_needs_6 : decode cX5_needs 6 = .ok (.tableswitch 74 1 6 #[38, 51, 53, 62, 51, 41], 38) := by decide +kernel
theorem dX5_needs_44 : decode cX5_needs 44 = .ok (.bipush 30, 2) := by decide +kernel
theorem dX5_needs_46 : decode cX5_needs 46 = .ok (.ireturn, 1) := by decide +kernel
theorem dX5_needs_47 : decode cX5_needs 47 = .ok (.bipush 30, 2) := by decide +kernel
theorem dX5_needs_49 : decode cX5_needs 49 = .ok (.aload_n 0, 1) := by decide +kernel
theorem dX5_needs_50 : decode cX5_needs 50 = .ok (.getfield 9, 3) := by decide +kernel
theorem dX5_needs_53 : decode cX5_needs 53 = .ok (.iconst 2, 1) := by decide +kernel
theorem dX5_needs_54 : decode cX5_needs 54 = .ok (.iaload, 1) := by decide +kernel
theorem dX5_needs_55 : decode cX5_needs 55 = .ok (.iadd, 1) := by decide +kernel
theorem dX5_needs_56 : decode cX5_needs 56 = .ok (.ireturn, 1) := by decide +kernel
theorem dX5_needs_57 : decode cX5_needs 57 = .ok (.iconst 0, 1) := by decide +kernel
theorem dX5_needs_58 : decode cX5_needs 58 = .ok (.ireturn, 1) := by decide +kernel
theorem dX5_needs_59 : decode cX5_needs 59 = .ok (.aload_n 0, 1) := by decide +kernel
theorem dX5_needs_60 : decode cX5_needs 60 = .ok (.iload_n 1, 1) := by decide +kernel
theorem dX5_needs_61 : decode cX5_needs 61 = .ok (.iconst 1, 1) := by decide +kernel
theorem dX5_needs_62 : decode cX5_needs 62 = .ok (.invokevirtual 44, 3) := by decide +kernel
theorem dX5_needs_65 : decode cX5_needs 65 = .ok (.iconst 4, 1) := by decide +kernel
theorem dX5_needs_66 : decode cX5_needs 66 = .ok (.idiv, 1) := by decide +kernel
theorem dX5_needs_67 : decode cX5_needs 67 = .ok (.ireturn, 1) := by decide +kernel
theorem dX5_needs_68 : decode cX5_needs 68 = .ok (.aload_n 0, 1) := by decide +kernel
theorem dX5_needs_69 : decode cX5_needs 69 = .ok (.iload_n 1, 1) := by decide +kernel
theorem dX5_needs_70 : decode cX5_needs 70 = .ok (.iconst 1, 1) := by decide +kernel
theorem dX5_needs_71 : decode cX5_needs 71 = .ok (.invokevirtual 44, 3) := by decide +kernel
theorem dX5_needs_74 : decode cX5_needs 74 = .ok (.iconst 4, 1) := by decide +kernel
theorem dX5_needs_75 : decode cX5_needs 75 = .ok (.idiv, 1) := by decide +kernel
theorem dX5_needs_76 : decode cX5_needs 76 = .ok (.bipush 25, 2) := by decide +kernel
theorem dX5_needs_78 : decode cX5_needs 78 = .ok (.iadd, 1) := by decide +kernel
theorem dX5_needs_79 : decode cX5_needs 79 = .ok (.ireturn, 1) := by decide +kernel
theorem dX5_needs_80 : decode cX5_needs 80 = .ok (.bipush 10, 2) := by decide +kernel
theorem dX5_needs_82 : decode cX5_needs 82 = .ok (.ireturn, 1) := by decide +kernel
theorem dX5_thickens_0 : decode cX5_thickens 0 = .ok (.aload_n 0, 1) := by decide +kernel
theorem dX5_thickens_1 : decode cX5_thickens 1 = .ok (.getfield 9, 3) := by decide +kernel
theorem dX5_thickens_4 : decode cX5_thickens 4 = .ok (.iconst 1, 1) := by decide +kernel
theorem dX5_thickens_5 : decode cX5_thickens 5 = .ok (.iaload, 1) := by decide +kernel
theorem dX5_thickens_6 : decode cX5_thickens 6 = .ok (.bipush 10, 2) := by decide +kernel
theorem dX5_thickens_8 : decode cX5_thickens 8 = .ok (.idiv, 1) := by decide +kernel
theorem dX5_thickens_9 : decode cX5_thickens 9 = .ok (.istore_n 2, 1) := by decide +kernel
theorem dX5_thickens_10 : decode cX5_thickens 10 = .ok (.iload_n 2, 1) := by decide +kernel
theorem dX5_thickens_11 : decode cX5_thickens 11 = .ok (.iconst 2, 1) := by decide +kernel
theorem dX5_thickens_12 : decode cX5_thickens 12 = .ok (.idiv, 1) := by decide +kernel
theorem dX5_thickens_13 : decode cX5_thickens 13 = .ok (.aload_n 0, 1) := by decide +kernel
theorem dX5_thickens_14 : decode cX5_thickens 14 = .ok (.getfield 9, 3) := by decide +kernel
theorem dX5_thickens_17 : decode cX5_thickens 17 = .ok (.iconst 2, 1) := by decide +kernel
theorem dX5_thickens_18 : decode cX5_thickens 18 = .ok (.iaload, 1) := by decide +kernel
theorem dX5_thickens_19 : decode cX5_thickens 19 = .ok (.iadd, 1) := by decide +kernel
theorem dX5_thickens_20 : decode cX5_thickens 20 = .ok (.istore_n 3, 1) := by decide +kernel
theorem dX5_thickens_21 : decode cX5_thickens 21 = .ok (.aload_n 0, 1) := by decide +kernel
theorem dX5_thickens_22 : decode cX5_thickens 22 = .ok (.iload_n 1, 1) := by decide +kernel
theorem dX5_thickens_23 : decode cX5_thickens 23 = .ok (.iconst 0, 1) := by decide +kernel
theorem dX5_thickens_24 : decode cX5_thickens 24 = .ok (.invokevirtual 44, 3) := by decide +kernel
theorem dX5_thickens_27 : decode cX5_thickens 27 = .ok (.tableswitch 72 1 6 #[37, 47, 51, 53, 70, 41], 37) := by decide +kernel
theorem dX5_thickens_64 : decode cX5_thickens 64 = .ok (.iload_n 2, 1) := by decide +kernel
theorem dX5_thickens_65 : decode cX5_thickens 65 = .ok (.iconst 1, 1) := by decide +kernel
theorem dX5_thickens_66 : decode cX5_thickens 66 = .ok (.iadd, 1) := by decide +kernel
theorem dX5_thickens_67 : decode cX5_thickens 67 = .ok (.ireturn, 1) := by decide +kernel
theorem dX5_thickens_68 : decode cX5_thickens 68 = .ok (.iconst 2, 1) := by decide +kernel
theorem dX5_thickens_69 : decode cX5_thickens 69 = .ok (.iload_n 2, 1) := by decide +kernel
theorem dX5_thickens_70 : decode cX5_thickens 70 = .ok (.imul, 1) := by decide +kernel
theorem dX5_thickens_71 : decode cX5_thickens 71 = .ok (.iconst 2, 1) := by decide +kernel
theorem dX5_thickens_72 : decode cX5_thickens 72 = .ok (.iadd, 1) := by decide +kernel
theorem dX5_thickens_73 : decode cX5_thickens 73 = .ok (.ireturn, 1) := by decide +kernel
theorem dX5_thickens_74 : decode cX5_thickens 74 = .ok (.iload_n 2, 1) := by decide +kernel
theorem dX5_thickens_75 : decode cX5_thickens 75 = .ok (.iconst 2, 1) := by decide +kernel
theorem dX5_thickens_76 : decode cX5_thickens 76 = .ok (.idiv, 1) := by decide +kernel
theorem dX5_thickens_77 : decode cX5_thickens 77 = .ok (.ireturn, 1) := by decide +kernel
theorem dX5_thickens_78 : decode cX5_thickens 78 = .ok (.iload_n 3, 1) := by decide +kernel
theorem dX5_thickens_79 : decode cX5_thickens 79 = .ok (.ireturn, 1) := by decide +kernel
theorem dX5_thickens_80 : decode cX5_thickens 80 = .ok (.aload_n 0, 1) := by decide +kernel
theorem dX5_thickens_81 : decode cX5_thickens 81 = .ok (.invokevirtual 48, 3) := by decide +kernel
theorem dX5_thickens_84 : decode cX5_thickens 84 = .ok (.iconst 1, 1) := by decide +kernel
theorem dX5_thickens_85 : decode cX5_thickens 85 = .ok (.if_icmp .ne 10, 3) := by decide +kernel
theorem dX5_thickens_88 : decode cX5_thickens 88 = .ok (.iload_n 3, 1) := by decide +kernel
theorem dX5_thickens_89 : decode cX5_thickens 89 = .ok (.bipush 10, 2) := by decide +kernel
theorem dX5_thickens_91 : decode cX5_thickens 91 = .ok (.iadd, 1) := by decide +kernel
theorem dX5_thickens_92 : decode cX5_thickens 92 = .ok (.goto 4, 3) := by decide +kernel
theorem dX5_thickens_95 : decode cX5_thickens 95 = .ok (.iload_n 3, 1) := by decide +kernel
theorem dX5_thickens_96 : decode cX5_thickens 96 = .ok (.ireturn, 1) := by decide +kernel
theorem dX5_thickens_97 : decode cX5_thickens 97 = .ok (.iconst 0, 1) := by decide +kernel
theorem dX5_thickens_98 : decode cX5_thickens 98 = .ok (.ireturn, 1) := by decide +kernel
theorem dX5_thickens_99 : decode cX5_thickens 99 = .ok (.iload_n 2, 1) := by decide +kernel
theorem dX5_thickens_100 : decode cX5_thickens 100 = .ok (.ireturn, 1) := by decide +kernel
theorem dX5_salts_0 : decode cX5_salts 0 = .ok (.aload_n 0, 1) := by decide +kernel
theorem dX5_salts_1 : decode cX5_salts 1 = .ok (.invokevirtual 48, 3) := by decide +kernel
theorem dX5_salts_4 : decode cX5_salts 4 = .ok (.iconst 2, 1) := by decide +kernel
theorem dX5_salts_5 : decode cX5_salts 5 = .ok (.if_icmp .ne 7, 3) := by decide +kernel
theorem dX5_salts_8 : decode cX5_salts 8 = .ok (.iconst 5, 1) := by decide +kernel
theorem dX5_salts_9 : decode cX5_salts 9 = .ok (.goto 4, 3) := by decide +kernel
theorem dX5_salts_12 : decode cX5_salts 12 = .ok (.iconst 0, 1) := by decide +kernel
theorem dX5_salts_13 : decode cX5_salts 13 = .ok (.istore_n 2, 1) := by decide +kernel
theorem dX5_salts_14 : decode cX5_salts 14 = .ok (.aload_n 0, 1) := by decide +kernel
theorem dX5_salts_15 : decode cX5_salts 15 = .ok (.iload_n 1, 1) := by decide +kernel
theorem dX5_salts_16 : decode cX5_salts 16 = .ok (.iconst 0, 1) := by decide +kernel
theorem dX5_salts_17 : decode cX5_salts 17 = .ok (.invokevirtual 44, 3) := by decide +kernel
theorem dX5_salts_20 : decode cX5_salts 20 = .ok (.tableswitch 65 2 6 #[38, 42, 42, 48, 36], 36) := by decide +kernel
theorem dX5_salts_56 : decode cX5_salts 56 = .ok (.iconst 0, 1) := by decide +kernel
theorem dX5_salts_57 : decode cX5_salts 57 = .ok (.ireturn, 1) := by decide +kernel
theorem dX5_salts_58 : decode cX5_salts 58 = .ok (.iload_n 2, 1) := by decide +kernel
theorem dX5_salts_59 : decode cX5_salts 59 = .ok (.iconst 1, 1) := by decide +kernel
theorem dX5_salts_60 : decode cX5_salts 60 = .ok (.iadd, 1) := by decide +kernel
theorem dX5_salts_61 : decode cX5_salts 61 = .ok (.ireturn, 1) := by decide +kernel
theorem dX5_salts_62 : decode cX5_salts 62 = .ok (.iconst 2, 1) := by decide +kernel
theorem dX5_salts_63 : decode cX5_salts 63 = .ok (.iload_n 2, 1) := by decide +kernel
theorem dX5_salts_64 : decode cX5_salts 64 = .ok (.imul, 1) := by decide +kernel
theorem dX5_salts_65 : decode cX5_salts 65 = .ok (.iconst 2, 1) := by decide +kernel
theorem dX5_salts_66 : decode cX5_salts 66 = .ok (.iadd, 1) := by decide +kernel
theorem dX5_salts_67 : decode cX5_salts 67 = .ok (.ireturn, 1) := by decide +kernel
theorem dX5_salts_68 : decode cX5_salts 68 = .ok (.aload_n 0, 1) := by decide +kernel
theorem dX5_salts_69 : decode cX5_salts 69 = .ok (.invokevirtual 48, 3) := by decide +kernel
theorem dX5_salts_72 : decode cX5_salts 72 = .ok (.bipush 8, 2) := by decide +kernel
theorem dX5_salts_74 : decode cX5_salts 74 = .ok (.if_icmp .ne 9, 3) := by decide +kernel
theorem dX5_salts_77 : decode cX5_salts 77 = .ok (.iload_n 2, 1) := by decide +kernel
theorem dX5_salts_78 : decode cX5_salts 78 = .ok (.iconst 3, 1) := by decide +kernel
theorem dX5_salts_79 : decode cX5_salts 79 = .ok (.iadd, 1) := by decide +kernel
theorem dX5_salts_80 : decode cX5_salts 80 = .ok (.goto 4, 3) := by decide +kernel
theorem dX5_salts_83 : decode cX5_salts 83 = .ok (.iload_n 2, 1) := by decide +kernel
theorem dX5_salts_84 : decode cX5_salts 84 = .ok (.ireturn, 1) := by decide +kernel
theorem dX5_salts_85 : decode cX5_salts 85 = .ok (.iload_n 2, 1) := by decide +kernel
theorem dX5_salts_86 : decode cX5_salts 86 = .ok (.ireturn, 1) := by decide +kernel
theorem dX5_burns_0 : decode cX5_burns 0 = .ok (.aload_n 0, 1) := by decide +kernel
theorem dX5_burns_1 : decode cX5_burns 1 = .ok (.iload_n 1, 1) := by decide +kernel
theorem dX5_burns_2 : decode cX5_burns 2 = .ok (.iconst 0, 1) := by decide +kernel
theorem dX5_burns_3 : decode cX5_burns 3 = .ok (.invokevirtual 44, 3) := by decide +kernel
theorem dX5_burns_6 : decode cX5_burns 6 = .ok (.tableswitch 47 1 6 #[38, 44, 44, 41, 44, 38], 38) := by decide +kernel
theorem dX5_burns_44 : decode cX5_burns 44 = .ok (.bipush 70, 2) := by decide +kernel
theorem dX5_burns_46 : decode cX5_burns 46 = .ok (.ireturn, 1) := by decide +kernel
theorem dX5_burns_47 : decode cX5_burns 47 = .ok (.bipush 90, 2) := by decide +kernel
theorem dX5_burns_49 : decode cX5_burns 49 = .ok (.ireturn, 1) := by decide +kernel
theorem dX5_burns_50 : decode cX5_burns 50 = .ok (.bipush 99, 2) := by decide +kernel
theorem dX5_burns_52 : decode cX5_burns 52 = .ok (.ireturn, 1) := by decide +kernel
theorem dX5_burns_53 : decode cX5_burns 53 = .ok (.bipush 80, 2) := by decide +kernel
theorem dX5_burns_55 : decode cX5_burns 55 = .ok (.ireturn, 1) := by decide +kernel
theorem dX5_gives_0 : decode cX5_gives 0 = .ok (.aload_n 0, 1) := by decide +kernel
theorem dX5_gives_1 : decode cX5_gives 1 = .ok (.iload_n 1, 1) := by decide +kernel
theorem dX5_gives_2 : decode cX5_gives 2 = .ok (.iconst 3, 1) := by decide +kernel
theorem dX5_gives_3 : decode cX5_gives 3 = .ok (.invokevirtual 44, 3) := by decide +kernel
theorem dX5_gives_6 : decode cX5_gives 6 = .ok (.iconst 1, 1) := by decide +kernel
theorem dX5_gives_7 : decode cX5_gives 7 = .ok (.if_icmp .ne 5, 3) := by decide +kernel
theorem dX5_gives_10 : decode cX5_gives 10 = .ok (.iconst 0, 1) := by decide +kernel
theorem dX5_gives_11 : decode cX5_gives 11 = .ok (.ireturn, 1) := by decide +kernel
theorem dX5_gives_12 : decode cX5_gives 12 = .ok (.aload_n 0, 1) := by decide +kernel
theorem dX5_gives_13 : decode cX5_gives 13 = .ok (.iload_n 1, 1) := by decide +kernel
theorem dX5_gives_14 : decode cX5_gives 14 = .ok (.iconst 2, 1) := by decide +kernel
theorem dX5_gives_15 : decode cX5_gives 15 = .ok (.invokevirtual 44, 3) := by decide +kernel
theorem dX5_gives_18 : decode cX5_gives 18 = .ok (.bipush 30, 2) := by decide +kernel
theorem dX5_gives_20 : decode cX5_gives 20 = .ok (.if_icmp .ge 15, 3) := by decide +kernel
theorem dX5_gives_23 : decode cX5_gives 23 = .ok (.bipush 30, 2) := by decide +kernel
theorem dX5_gives_25 : decode cX5_gives 25 = .ok (.aload_n 0, 1) := by decide +kernel
theorem dX5_gives_26 : decode cX5_gives 26 = .ok (.iload_n 1, 1) := by decide +kernel
theorem dX5_gives_27 : decode cX5_gives 27 = .ok (.iconst 2, 1) := by decide +kernel
theorem dX5_gives_28 : decode cX5_gives 28 = .ok (.invokevirtual 44, 3) := by decide +kernel
theorem dX5_gives_31 : decode cX5_gives 31 = .ok (.isub, 1) := by decide +kernel
theorem dX5_gives_32 : decode cX5_gives 32 = .ok (.goto 12, 3) := by decide +kernel
theorem dX5_gives_35 : decode cX5_gives 35 = .ok (.aload_n 0, 1) := by decide +kernel
theorem dX5_gives_36 : decode cX5_gives 36 = .ok (.iload_n 1, 1) := by decide +kernel
theorem dX5_gives_37 : decode cX5_gives 37 = .ok (.iconst 2, 1) := by decide +kernel
theorem dX5_gives_38 : decode cX5_gives 38 = .ok (.invokevirtual 44, 3) := by decide +kernel
theorem dX5_gives_41 : decode cX5_gives 41 = .ok (.bipush 30, 2) := by decide +kernel
theorem dX5_gives_43 : decode cX5_gives 43 = .ok (.isub, 1) := by decide +kernel
theorem dX5_gives_44 : decode cX5_gives 44 = .ok (.istore_n 2, 1) := by decide +kernel
theorem dX5_gives_45 : decode cX5_gives 45 = .ok (.aload_n 0, 1) := by decide +kernel
theorem dX5_gives_46 : decode cX5_gives 46 = .ok (.iload_n 1, 1) := by decide +kernel
theorem dX5_gives_47 : decode cX5_gives 47 = .ok (.iconst 1, 1) := by decide +kernel
theorem dX5_gives_48 : decode cX5_gives 48 = .ok (.invokevirtual 44, 3) := by decide +kernel
theorem dX5_gives_51 : decode cX5_gives 51 = .ok (.iload_n 2, 1) := by decide +kernel
theorem dX5_gives_52 : decode cX5_gives 52 = .ok (.if_icmp .le 14, 3) := by decide +kernel
theorem dX5_gives_55 : decode cX5_gives 55 = .ok (.aload_n 0, 1) := by decide +kernel
theorem dX5_gives_56 : decode cX5_gives 56 = .ok (.iload_n 1, 1) := by decide +kernel
theorem dX5_gives_57 : decode cX5_gives 57 = .ok (.iconst 1, 1) := by decide +kernel
theorem dX5_gives_58 : decode cX5_gives 58 = .ok (.invokevirtual 44, 3) := by decide +kernel
theorem dX5_gives_61 : decode cX5_gives 61 = .ok (.iload_n 2, 1) := by decide +kernel
theorem dX5_gives_62 : decode cX5_gives 62 = .ok (.isub, 1) := by decide +kernel
theorem dX5_gives_63 : decode cX5_gives 63 = .ok (.goto 4, 3) := by decide +kernel
theorem dX5_gives_66 : decode cX5_gives 66 = .ok (.iconst 0, 1) := by decide +kernel
theorem dX5_gives_67 : decode cX5_gives 67 = .ok (.istore_n 3, 1) := by decide +kernel
theorem dX5_gives_68 : decode cX5_gives 68 = .ok (.aload_n 0, 1) := by decide +kernel
theorem dX5_gives_69 : decode cX5_gives 69 = .ok (.iload_n 1, 1) := by decide +kernel
theorem dX5_gives_70 : decode cX5_gives 70 = .ok (.iconst 0, 1) := by decide +kernel
theorem dX5_gives_71 : decode cX5_gives 71 = .ok (.invokevirtual 44, 3) := by decide +kernel
theorem dX5_gives_74 : decode cX5_gives 74 = .ok (.tableswitch 72 1 6 #[38, 49, 53, 60, 69, 38], 38) := by decide +kernel
theorem dX5_gives_112 : decode cX5_gives 112 = .ok (.iload_n 3, 1) := by decide +kernel
theorem dX5_gives_113 : decode cX5_gives 113 = .ok (.aload_n 0, 1) := by decide +kernel
theorem dX5_gives_114 : decode cX5_gives 114 = .ok (.getfield 9, 3) := by decide +kernel
theorem dX5_gives_117 : decode cX5_gives 117 = .ok (.iconst 1, 1) := by decide +kernel
theorem dX5_gives_118 : decode cX5_gives 118 = .ok (.iaload, 1) := by decide +kernel
theorem dX5_gives_119 : decode cX5_gives 119 = .ok (.iconst 5, 1) := by decide +kernel
theorem dX5_gives_120 : decode cX5_gives 120 = .ok (.idiv, 1) := by decide +kernel
theorem dX5_gives_121 : decode cX5_gives 121 = .ok (.iadd, 1) := by decide +kernel
theorem dX5_gives_122 : decode cX5_gives 122 = .ok (.ireturn, 1) := by decide +kernel
theorem dX5_gives_123 : decode cX5_gives 123 = .ok (.iload_n 3, 1) := by decide +kernel
theorem dX5_gives_124 : decode cX5_gives 124 = .ok (.iconst 2, 1) := by decide +kernel
theorem dX5_gives_125 : decode cX5_gives 125 = .ok (.idiv, 1) := by decide +kernel
theorem dX5_gives_126 : decode cX5_gives 126 = .ok (.ireturn, 1) := by decide +kernel
theorem dX5_gives_127 : decode cX5_gives 127 = .ok (.iload_n 3, 1) := by decide +kernel
theorem dX5_gives_128 : decode cX5_gives 128 = .ok (.iconst 2, 1) := by decide +kernel
theorem dX5_gives_129 : decode cX5_gives 129 = .ok (.idiv, 1) := by decide +kernel
theorem dX5_gives_130 : decode cX5_gives 130 = .ok (.bipush 20, 2) := by decide +kernel
theorem dX5_gives_132 : decode cX5_gives 132 = .ok (.iadd, 1) := by decide +kernel
theorem dX5_gives_133 : decode cX5_gives 133 = .ok (.ireturn, 1) := by decide +kernel
theorem dX5_gives_134 : decode cX5_gives 134 = .ok (.iconst 2, 1) := by decide +kernel
theorem dX5_gives_135 : decode cX5_gives 135 = .ok (.iload_n 3, 1) := by decide +kernel
theorem dX5_gives_136 : decode cX5_gives 136 = .ok (.iconst 2, 1) := by decide +kernel
theorem dX5_gives_137 : decode cX5_gives 137 = .ok (.idiv, 1) := by decide +kernel
theorem dX5_gives_138 : decode cX5_gives 138 = .ok (.bipush 20, 2) := by decide +kernel
theorem dX5_gives_140 : decode cX5_gives 140 = .ok (.iadd, 1) := by decide +kernel
theorem dX5_gives_141 : decode cX5_gives 141 = .ok (.imul, 1) := by decide +kernel
theorem dX5_gives_142 : decode cX5_gives 142 = .ok (.ireturn, 1) := by decide +kernel
theorem dX5_gives_143 : decode cX5_gives 143 = .ok (.bipush 10, 2) := by decide +kernel
theorem dX5_gives_145 : decode cX5_gives 145 = .ok (.ireturn, 1) := by decide +kernel
theorem dX5_gives_146 : decode cX5_gives 146 = .ok (.iload_n 3, 1) := by decide +kernel
theorem dX5_gives_147 : decode cX5_gives 147 = .ok (.ireturn, 1) := by decide +kernel
theorem dX5_isOn_0 : decode cX5_isOn 0 = .ok (.aload_n 0, 1) := by decide +kernel
theorem dX5_isOn_1 : decode cX5_isOn 1 = .ok (.iload_n 1, 1) := by decide +kernel
theorem dX5_isOn_2 : decode cX5_isOn 2 = .ok (.iconst 3, 1) := by decide +kernel
theorem dX5_isOn_3 : decode cX5_isOn 3 = .ok (.invokevirtual 44, 3) := by decide +kernel
theorem dX5_isOn_6 : decode cX5_isOn 6 = .ok (.ifCond .ne 16, 3) := by decide +kernel
theorem dX5_isOn_9 : decode cX5_isOn 9 = .ok (.aload_n 0, 1) := by decide +kernel
theorem dX5_isOn_10 : decode cX5_isOn 10 = .ok (.iload_n 1, 1) := by decide +kernel
theorem dX5_isOn_11 : decode cX5_isOn 11 = .ok (.iconst 4, 1) := by decide +kernel
theorem dX5_isOn_12 : decode cX5_isOn 12 = .ok (.invokevirtual 44, 3) := by decide +kernel
theorem dX5_isOn_15 : decode cX5_isOn 15 = .ok (.ifCond .ne 7, 3) := by decide +kernel
theorem dX5_isOn_18 : decode cX5_isOn 18 = .ok (.iconst 1, 1) := by decide +kernel
theorem dX5_isOn_19 : decode cX5_isOn 19 = .ok (.goto 4, 3) := by decide +kernel
theorem dX5_isOn_22 : decode cX5_isOn 22 = .ok (.iconst 0, 1) := by decide +kernel
theorem dX5_isOn_23 : decode cX5_isOn 23 = .ok (.ireturn, 1) := by decide +kernel
theorem dX5_set_0 : decode cX5_set 0 = .ok (.iload_n 1, 1) := by decide +kernel
theorem dX5_set_1 : decode cX5_set 1 = .ok (.iconst 0, 1) := by decide +kernel
theorem dX5_set_2 : decode cX5_set 2 = .ok (.iconst 1, 1) := by decide +kernel
theorem dX5_set_3 : decode cX5_set 3 = .ok (.invokestatic 40, 3) := by decide +kernel
theorem dX5_set_6 : decode cX5_set 6 = .ok (.ifCond .eq 33, 3) := by decide +kernel
theorem dX5_set_9 : decode cX5_set 9 = .ok (.iload_n 2, 1) := by decide +kernel
theorem dX5_set_10 : decode cX5_set 10 = .ok (.iconst 0, 1) := by decide +kernel
theorem dX5_set_11 : decode cX5_set 11 = .ok (.iload_n 1, 1) := by decide +kernel
theorem dX5_set_12 : decode cX5_set 12 = .ok (.ifCond .ne 8, 3) := by decide +kernel
theorem dX5_set_15 : decode cX5_set 15 = .ok (.bipush 99, 2) := by decide +kernel
theorem dX5_set_17 : decode cX5_set 17 = .ok (.goto 5, 3) := by decide +kernel
theorem dX5_set_20 : decode cX5_set 20 = .ok (.bipush 9, 2) := by decide +kernel
theorem dX5_set_22 : decode cX5_set 22 = .ok (.invokestatic 40, 3) := by decide +kernel
theorem dX5_set_25 : decode cX5_set 25 = .ok (.ifCond .eq 14, 3) := by decide +kernel
theorem dX5_set_28 : decode cX5_set 28 = .ok (.aload_n 0, 1) := by decide +kernel
theorem dX5_set_29 : decode cX5_set 29 = .ok (.iconst 1, 1) := by decide +kernel
theorem dX5_set_30 : decode cX5_set 30 = .ok (.iload_n 1, 1) := by decide +kernel
theorem dX5_set_31 : decode cX5_set 31 = .ok (.iadd, 1) := by decide +kernel
theorem dX5_set_32 : decode cX5_set 32 = .ok (.iload_n 2, 1) := by decide +kernel
theorem dX5_set_33 : decode cX5_set 33 = .ok (.invokevirtual 52, 3) := by decide +kernel
theorem dX5_set_36 : decode cX5_set 36 = .ok (.goto 9, 3) := by decide +kernel
theorem dX5_set_39 : decode cX5_set 39 = .ok (.aload_n 0, 1) := by decide +kernel
theorem dX5_set_40 : decode cX5_set 40 = .ok (.ldc 34, 2) := by decide +kernel
theorem dX5_set_42 : decode cX5_set 42 = .ok (.invokevirtual 36, 3) := by decide +kernel
theorem dX5_set_45 : decode cX5_set 45 = .ok (.ireturn, 1) := by decide +kernel
theorem dX5_deed_0 : decode cX5_deed 0 = .ok (.iload_n 1, 1) := by decide +kernel
theorem dX5_deed_1 : decode cX5_deed 1 = .ok (.iconst 0, 1) := by decide +kernel
theorem dX5_deed_2 : decode cX5_deed 2 = .ok (.iconst 5, 1) := by decide +kernel
theorem dX5_deed_3 : decode cX5_deed 3 = .ok (.invokestatic 40, 3) := by decide +kernel
theorem dX5_deed_6 : decode cX5_deed 6 = .ok (.ifCond .eq 22, 3) := by decide +kernel
theorem dX5_deed_9 : decode cX5_deed 9 = .ok (.iload_n 2, 1) := by decide +kernel
theorem dX5_deed_10 : decode cX5_deed 10 = .ok (.invokestatic 55, 3) := by decide +kernel
theorem dX5_deed_13 : decode cX5_deed 13 = .ok (.ifCond .eq 15, 3) := by decide +kernel
theorem dX5_deed_16 : decode cX5_deed 16 = .ok (.aload_n 0, 1) := by decide +kernel
theorem dX5_deed_17 : decode cX5_deed 17 = .ok (.bipush 6, 2) := by decide +kernel
theorem dX5_deed_19 : decode cX5_deed 19 = .ok (.iload_n 1, 1) := by decide +kernel
theorem dX5_deed_20 : decode cX5_deed 20 = .ok (.iadd, 1) := by decide +kernel
theorem dX5_deed_21 : decode cX5_deed 21 = .ok (.iload_n 2, 1) := by decide +kernel
theorem dX5_deed_22 : decode cX5_deed 22 = .ok (.invokevirtual 52, 3) := by decide +kernel
theorem dX5_deed_25 : decode cX5_deed 25 = .ok (.goto 9, 3) := by decide +kernel
theorem dX5_deed_28 : decode cX5_deed 28 = .ok (.aload_n 0, 1) := by decide +kernel
theorem dX5_deed_29 : decode cX5_deed 29 = .ok (.ldc 34, 2) := by decide +kernel
theorem dX5_deed_31 : decode cX5_deed 31 = .ok (.invokevirtual 36, 3) := by decide +kernel
theorem dX5_deed_34 : decode cX5_deed 34 = .ok (.ireturn, 1) := by decide +kernel
theorem dX5_listed_0 : decode cX5_listed 0 = .ok (.iload_n 1, 1) := by decide +kernel
theorem dX5_listed_1 : decode cX5_listed 1 = .ok (.iconst 0, 1) := by decide +kernel
theorem dX5_listed_2 : decode cX5_listed 2 = .ok (.iconst 5, 1) := by decide +kernel
theorem dX5_listed_3 : decode cX5_listed 3 = .ok (.invokestatic 40, 3) := by decide +kernel
theorem dX5_listed_6 : decode cX5_listed 6 = .ok (.ifCond .eq 15, 3) := by decide +kernel
theorem dX5_listed_9 : decode cX5_listed 9 = .ok (.aload_n 0, 1) := by decide +kernel
theorem dX5_listed_10 : decode cX5_listed 10 = .ok (.getfield 9, 3) := by decide +kernel
theorem dX5_listed_13 : decode cX5_listed 13 = .ok (.bipush 6, 2) := by decide +kernel
theorem dX5_listed_15 : decode cX5_listed 15 = .ok (.iload_n 1, 1) := by decide +kernel
theorem dX5_listed_16 : decode cX5_listed 16 = .ok (.iadd, 1) := by decide +kernel
theorem dX5_listed_17 : decode cX5_listed 17 = .ok (.iaload, 1) := by decide +kernel
theorem dX5_listed_18 : decode cX5_listed 18 = .ok (.goto 9, 3) := by decide +kernel
theorem dX5_listed_21 : decode cX5_listed 21 = .ok (.aload_n 0, 1) := by decide +kernel
theorem dX5_listed_22 : decode cX5_listed 22 = .ok (.ldc 34, 2) := by decide +kernel
theorem dX5_listed_24 : decode cX5_listed 24 = .ok (.invokevirtual 36, 3) := by decide +kernel
theorem dX5_listed_27 : decode cX5_listed 27 = .ok (.ireturn, 1) := by decide +kernel
theorem dX5_comes_0 : decode cX5_comes 0 = .ok (.aload_n 0, 1) := by decide +kernel
theorem dX5_comes_1 : decode cX5_comes 1 = .ok (.getfield 9, 3) := by decide +kernel
theorem dX5_comes_4 : decode cX5_comes 4 = .ok (.iconst 5, 1) := by decide +kernel
theorem dX5_comes_5 : decode cX5_comes 5 = .ok (.iaload, 1) := by decide +kernel
theorem dX5_comes_6 : decode cX5_comes 6 = .ok (.istore 6, 2) := by decide +kernel
theorem dX5_comes_8 : decode cX5_comes 8 = .ok (.aload_n 0, 1) := by decide +kernel
theorem dX5_comes_9 : decode cX5_comes 9 = .ok (.getfield 9, 3) := by decide +kernel
theorem dX5_comes_12 : decode cX5_comes 12 = .ok (.iconst 5, 1) := by decide +kernel
theorem dX5_comes_13 : decode cX5_comes 13 = .ok (.dup2, 1) := by decide +kernel
theorem dX5_comes_14 : decode cX5_comes 14 = .ok (.iaload, 1) := by decide +kernel
theorem dX5_comes_15 : decode cX5_comes 15 = .ok (.iconst 1, 1) := by decide +kernel
theorem dX5_comes_16 : decode cX5_comes 16 = .ok (.iadd, 1) := by decide +kernel
theorem dX5_comes_17 : decode cX5_comes 17 = .ok (.iastore, 1) := by decide +kernel
theorem dX5_comes_18 : decode cX5_comes 18 = .ok (.aload_n 0, 1) := by decide +kernel
theorem dX5_comes_19 : decode cX5_comes 19 = .ok (.iload 6, 2) := by decide +kernel
theorem dX5_comes_21 : decode cX5_comes 21 = .ok (.iconst 0, 1) := by decide +kernel
theorem dX5_comes_22 : decode cX5_comes 22 = .ok (.iload_n 1, 1) := by decide +kernel
theorem dX5_comes_23 : decode cX5_comes 23 = .ok (.invokevirtual 59, 3) := by decide +kernel
theorem dX5_comes_26 : decode cX5_comes 26 = .ok (.aload_n 0, 1) := by decide +kernel
theorem dX5_comes_27 : decode cX5_comes 27 = .ok (.iload 6, 2) := by decide +kernel
theorem dX5_comes_29 : decode cX5_comes 29 = .ok (.iconst 1, 1) := by decide +kernel
theorem dX5_comes_30 : decode cX5_comes 30 = .ok (.iload_n 2, 1) := by decide +kernel
theorem dX5_comes_31 : decode cX5_comes 31 = .ok (.invokevirtual 59, 3) := by decide +kernel
theorem dX5_comes_34 : decode cX5_comes 34 = .ok (.aload_n 0, 1) := by decide +kernel
theorem dX5_comes_35 : decode cX5_comes 35 = .ok (.iload 6, 2) := by decide +kernel
theorem dX5_comes_37 : decode cX5_comes 37 = .ok (.iconst 2, 1) := by decide +kernel
theorem dX5_comes_38 : decode cX5_comes 38 = .ok (.iload_n 3, 1) := by decide +kernel
theorem dX5_comes_39 : decode cX5_comes 39 = .ok (.invokevirtual 59, 3) := by decide +kernel
theorem dX5_comes_42 : decode cX5_comes 42 = .ok (.aload_n 0, 1) := by decide +kernel
theorem dX5_comes_43 : decode cX5_comes 43 = .ok (.iload 6, 2) := by decide +kernel
theorem dX5_comes_45 : decode cX5_comes 45 = .ok (.iconst 3, 1) := by decide +kernel
theorem dX5_comes_46 : decode cX5_comes 46 = .ok (.iload 5, 2) := by decide +kernel
theorem dX5_comes_48 : decode cX5_comes 48 = .ok (.invokevirtual 59, 3) := by decide +kernel
theorem dX5_comes_51 : decode cX5_comes 51 = .ok (.aload_n 0, 1) := by decide +kernel
theorem dX5_comes_52 : decode cX5_comes 52 = .ok (.iload 6, 2) := by decide +kernel
theorem dX5_comes_54 : decode cX5_comes 54 = .ok (.iconst 4, 1) := by decide +kernel
theorem dX5_comes_55 : decode cX5_comes 55 = .ok (.iload 4, 2) := by decide +kernel
theorem dX5_comes_57 : decode cX5_comes 57 = .ok (.invokevirtual 59, 3) := by decide +kernel
theorem dX5_comes_60 : decode cX5_comes 60 = .ok (.aload_n 0, 1) := by decide +kernel
theorem dX5_comes_61 : decode cX5_comes 61 = .ok (.iload 6, 2) := by decide +kernel
theorem dX5_comes_63 : decode cX5_comes 63 = .ok (.iconst 5, 1) := by decide +kernel
theorem dX5_comes_64 : decode cX5_comes 64 = .ok (.iconst 0, 1) := by decide +kernel
theorem dX5_comes_65 : decode cX5_comes 65 = .ok (.invokevirtual 59, 3) := by decide +kernel
theorem dX5_comes_68 : decode cX5_comes 68 = .ok (.iload 6, 2) := by decide +kernel
theorem dX5_comes_70 : decode cX5_comes 70 = .ok (.ireturn, 1) := by decide +kernel
theorem dX5_dish_0 : decode cX5_dish 0 = .ok (.iload_n 1, 1) := by decide +kernel
theorem dX5_dish_1 : decode cX5_dish 1 = .ok (.iconst 0, 1) := by decide +kernel
theorem dX5_dish_2 : decode cX5_dish 2 = .ok (.bipush 6, 2) := by decide +kernel
theorem dX5_dish_4 : decode cX5_dish 4 = .ok (.invokestatic 40, 3) := by decide +kernel
theorem dX5_dish_7 : decode cX5_dish 7 = .ok (.ifCond .eq 13, 3) := by decide +kernel
theorem dX5_dish_10 : decode cX5_dish 10 = .ok (.iload_n 2, 1) := by decide +kernel
theorem dX5_dish_11 : decode cX5_dish 11 = .ok (.iconst 0, 1) := by decide +kernel
theorem dX5_dish_12 : decode cX5_dish 12 = .ok (.bipush 99, 2) := by decide +kernel
theorem dX5_dish_14 : decode cX5_dish 14 = .ok (.invokestatic 40, 3) := by decide +kernel
theorem dX5_dish_17 : decode cX5_dish 17 = .ok (.ifCond .ne 10, 3) := by decide +kernel
theorem dX5_dish_20 : decode cX5_dish 20 = .ok (.aload_n 0, 1) := by decide +kernel
theorem dX5_dish_21 : decode cX5_dish 21 = .ok (.ldc 34, 2) := by decide +kernel
theorem dX5_dish_23 : decode cX5_dish 23 = .ok (.invokevirtual 36, 3) := by decide +kernel
theorem dX5_dish_26 : decode cX5_dish 26 = .ok (.ireturn, 1) := by decide +kernel
theorem dX5_dish_27 : decode cX5_dish 27 = .ok (.aload_n 0, 1) := by decide +kernel
theorem dX5_dish_28 : decode cX5_dish 28 = .ok (.getfield 9, 3) := by decide +kernel
theorem dX5_dish_31 : decode cX5_dish 31 = .ok (.iconst 5, 1) := by decide +kernel
theorem dX5_dish_32 : decode cX5_dish 32 = .ok (.iaload, 1) := by decide +kernel
theorem dX5_dish_33 : decode cX5_dish 33 = .ok (.bipush 8, 2) := by decide +kernel
theorem dX5_dish_35 : decode cX5_dish 35 = .ok (.if_icmp .ne 12, 3) := by decide +kernel
theorem dX5_dish_38 : decode cX5_dish 38 = .ok (.aload_n 0, 1) := by decide +kernel
theorem dX5_dish_39 : decode cX5_dish 39 = .ok (.ldc 63, 2) := by decide +kernel
theorem dX5_dish_41 : decode cX5_dish 41 = .ok (.invokevirtual 36, 3) := by decide +kernel
theorem dX5_dish_44 : decode cX5_dish 44 = .ok (.goto 13, 3) := by decide +kernel
theorem dX5_dish_47 : decode cX5_dish 47 = .ok (.aload_n 0, 1) := by decide +kernel
theorem dX5_dish_48 : decode cX5_dish 48 = .ok (.iload_n 1, 1) := by decide +kernel
theorem dX5_dish_49 : decode cX5_dish 49 = .ok (.iload_n 2, 1) := by decide +kernel
theorem dX5_dish_50 : decode cX5_dish 50 = .ok (.bipush 10, 2) := by decide +kernel
theorem dX5_dish_52 : decode cX5_dish 52 = .ok (.iconst 0, 1) := by decide +kernel
theorem dX5_dish_53 : decode cX5_dish 53 = .ok (.iconst 0, 1) := by decide +kernel
theorem dX5_dish_54 : decode cX5_dish 54 = .ok (.invokevirtual 64, 3) := by decide +kernel
theorem dX5_dish_57 : decode cX5_dish 57 = .ok (.ireturn, 1) := by decide +kernel
theorem dX5_of_0 : decode cX5_of 0 = .ok (.aload_n 0, 1) := by decide +kernel
theorem dX5_of_1 : decode cX5_of 1 = .ok (.iload_n 1, 1) := by decide +kernel
theorem dX5_of_2 : decode cX5_of 2 = .ok (.invokevirtual 68, 3) := by decide +kernel
theorem dX5_of_5 : decode cX5_of 5 = .ok (.ifCond .eq 13, 3) := by decide +kernel
theorem dX5_of_8 : decode cX5_of 8 = .ok (.iload_n 2, 1) := by decide +kernel
theorem dX5_of_9 : decode cX5_of 9 = .ok (.iconst 0, 1) := by decide +kernel
theorem dX5_of_10 : decode cX5_of 10 = .ok (.bipush 10, 2) := by decide +kernel
theorem dX5_of_12 : decode cX5_of 12 = .ok (.invokestatic 40, 3) := by decide +kernel
theorem dX5_of_15 : decode cX5_of 15 = .ok (.ifCond .ne 10, 3) := by decide +kernel
theorem dX5_of_18 : decode cX5_of 18 = .ok (.aload_n 0, 1) := by decide +kernel
theorem dX5_of_19 : decode cX5_of 19 = .ok (.ldc 34, 2) := by decide +kernel
theorem dX5_of_21 : decode cX5_of 21 = .ok (.invokevirtual 36, 3) := by decide +kernel
theorem dX5_of_24 : decode cX5_of 24 = .ok (.ireturn, 1) := by decide +kernel
theorem dX5_of_25 : decode cX5_of 25 = .ok (.iload_n 2, 1) := by decide +kernel
theorem dX5_of_26 : decode cX5_of 26 = .ok (.tableswitch 64 6 10 #[34, 40, 46, 52, 58], 34) := by decide +kernel
theorem dX5_of_60 : decode cX5_of 60 = .ok (.aload_n 0, 1) := by decide +kernel
theorem dX5_of_61 : decode cX5_of 61 = .ok (.iload_n 1, 1) := by decide +kernel
theorem dX5_of_62 : decode cX5_of 62 = .ok (.invokevirtual 71, 3) := by decide +kernel
theorem dX5_of_65 : decode cX5_of 65 = .ok (.ireturn, 1) := by decide +kernel
theorem dX5_of_66 : decode cX5_of 66 = .ok (.aload_n 0, 1) := by decide +kernel
theorem dX5_of_67 : decode cX5_of 67 = .ok (.iload_n 1, 1) := by decide +kernel
theorem dX5_of_68 : decode cX5_of 68 = .ok (.invokevirtual 74, 3) := by decide +kernel
theorem dX5_of_71 : decode cX5_of 71 = .ok (.ireturn, 1) := by decide +kernel
theorem dX5_of_72 : decode cX5_of 72 = .ok (.aload_n 0, 1) := by decide +kernel
theorem dX5_of_73 : decode cX5_of 73 = .ok (.iload_n 1, 1) := by decide +kernel
theorem dX5_of_74 : decode cX5_of 74 = .ok (.invokevirtual 77, 3) := by decide +kernel
theorem dX5_of_77 : decode cX5_of 77 = .ok (.ireturn, 1) := by decide +kernel
theorem dX5_of_78 : decode cX5_of 78 = .ok (.aload_n 0, 1) := by decide +kernel
theorem dX5_of_79 : decode cX5_of 79 = .ok (.iload_n 1, 1) := by decide +kernel
theorem dX5_of_80 : decode cX5_of 80 = .ok (.invokevirtual 80, 3) := by decide +kernel
theorem dX5_of_83 : decode cX5_of 83 = .ok (.ireturn, 1) := by decide +kernel
theorem dX5_of_84 : decode cX5_of 84 = .ok (.aload_n 0, 1) := by decide +kernel
theorem dX5_of_85 : decode cX5_of 85 = .ok (.iload_n 1, 1) := by decide +kernel
theorem dX5_of_86 : decode cX5_of 86 = .ok (.invokevirtual 83, 3) := by decide +kernel
theorem dX5_of_89 : decode cX5_of 89 = .ok (.ireturn, 1) := by decide +kernel
theorem dX5_of_90 : decode cX5_of 90 = .ok (.aload_n 0, 1) := by decide +kernel
theorem dX5_of_91 : decode cX5_of 91 = .ok (.iload_n 1, 1) := by decide +kernel
theorem dX5_of_92 : decode cX5_of 92 = .ok (.iload_n 2, 1) := by decide +kernel
theorem dX5_of_93 : decode cX5_of 93 = .ok (.invokevirtual 44, 3) := by decide +kernel
theorem dX5_of_96 : decode cX5_of 96 = .ok (.ireturn, 1) := by decide +kernel
theorem dX5_mostOf_0 : decode cX5_mostOf 0 = .ok (.iload_n 0, 1) := by decide +kernel
theorem dX5_mostOf_1 : decode cX5_mostOf 1 = .ok (.ifCond .ne 8, 3) := by decide +kernel
theorem dX5_mostOf_4 : decode cX5_mostOf 4 = .ok (.bipush 6, 2) := by decide +kernel
theorem dX5_mostOf_6 : decode cX5_mostOf 6 = .ok (.goto 30, 3) := by decide +kernel
theorem dX5_mostOf_9 : decode cX5_mostOf 9 = .ok (.iload_n 0, 1) := by decide +kernel
theorem dX5_mostOf_10 : decode cX5_mostOf 10 = .ok (.iconst 1, 1) := by decide +kernel
theorem dX5_mostOf_11 : decode cX5_mostOf 11 = .ok (.if_icmp .eq 8, 3) := by decide +kernel
theorem dX5_mostOf_14 : decode cX5_mostOf 14 = .ok (.iload_n 0, 1) := by decide +kernel
theorem dX5_mostOf_15 : decode cX5_mostOf 15 = .ok (.iconst 2, 1) := by decide +kernel
theorem dX5_mostOf_16 : decode cX5_mostOf 16 = .ok (.if_icmp .ne 8, 3) := by decide +kernel
theorem dX5_mostOf_19 : decode cX5_mostOf 19 = .ok (.bipush 99, 2) := by decide +kernel
theorem dX5_mostOf_21 : decode cX5_mostOf 21 = .ok (.goto 15, 3) := by decide +kernel
theorem dX5_mostOf_24 : decode cX5_mostOf 24 = .ok (.iload_n 0, 1) := by decide +kernel
theorem dX5_mostOf_25 : decode cX5_mostOf 25 = .ok (.iconst 5, 1) := by decide +kernel
theorem dX5_mostOf_26 : decode cX5_mostOf 26 = .ok (.if_icmp .ne 9, 3) := by decide +kernel
theorem dX5_mostOf_29 : decode cX5_mostOf 29 = .ok (.sipush 9999, 3) := by decide +kernel
theorem dX5_mostOf_32 : decode cX5_mostOf 32 = .ok (.goto 4, 3) := by decide +kernel
theorem dX5_mostOf_35 : decode cX5_mostOf 35 = .ok (.iconst 1, 1) := by decide +kernel
theorem dX5_mostOf_36 : decode cX5_mostOf 36 = .ok (.ireturn, 1) := by decide +kernel
theorem dX5_change_0 : decode cX5_change 0 = .ok (.aload_n 0, 1) := by decide +kernel
theorem dX5_change_1 : decode cX5_change 1 = .ok (.iload_n 1, 1) := by decide +kernel
theorem dX5_change_2 : decode cX5_change 2 = .ok (.invokevirtual 68, 3) := by decide +kernel
theorem dX5_change_5 : decode cX5_change 5 = .ok (.ifCond .eq 41, 3) := by decide +kernel
theorem dX5_change_8 : decode cX5_change 8 = .ok (.iload_n 2, 1) := by decide +kernel
theorem dX5_change_9 : decode cX5_change 9 = .ok (.iconst 0, 1) := by decide +kernel
theorem dX5_change_10 : decode cX5_change 10 = .ok (.iconst 5, 1) := by decide +kernel
theorem dX5_change_11 : decode cX5_change 11 = .ok (.invokestatic 40, 3) := by decide +kernel
theorem dX5_change_14 : decode cX5_change 14 = .ok (.ifCond .eq 32, 3) := by decide +kernel
theorem dX5_change_17 : decode cX5_change 17 = .ok (.iload_n 3, 1) := by decide +kernel
theorem dX5_change_18 : decode cX5_change 18 = .ok (.iconst 0, 1) := by decide +kernel
theorem dX5_change_19 : decode cX5_change 19 = .ok (.iload_n 2, 1) := by decide +kernel
theorem dX5_change_20 : decode cX5_change 20 = .ok (.invokestatic 86, 3) := by decide +kernel
theorem dX5_change_23 : decode cX5_change 23 = .ok (.invokestatic 40, 3) := by decide +kernel
theorem dX5_change_26 : decode cX5_change 26 = .ok (.ifCond .eq 20, 3) := by decide +kernel
theorem dX5_change_29 : decode cX5_change 29 = .ok (.aload_n 0, 1) := by decide +kernel
theorem dX5_change_30 : decode cX5_change 30 = .ok (.bipush 12, 2) := by decide +kernel
theorem dX5_change_32 : decode cX5_change 32 = .ok (.bipush 6, 2) := by decide +kernel
theorem dX5_change_34 : decode cX5_change 34 = .ok (.iload_n 1, 1) := by decide +kernel
theorem dX5_change_35 : decode cX5_change 35 = .ok (.imul, 1) := by decide +kernel
theorem dX5_change_36 : decode cX5_change 36 = .ok (.iadd, 1) := by decide +kernel
theorem dX5_change_37 : decode cX5_change 37 = .ok (.iload_n 2, 1) := by decide +kernel
theorem dX5_change_38 : decode cX5_change 38 = .ok (.iadd, 1) := by decide +kernel
theorem dX5_change_39 : decode cX5_change 39 = .ok (.iload_n 3, 1) := by decide +kernel
theorem dX5_change_40 : decode cX5_change 40 = .ok (.invokevirtual 52, 3) := by decide +kernel
theorem dX5_change_43 : decode cX5_change 43 = .ok (.goto 9, 3) := by decide +kernel
theorem dX5_change_46 : decode cX5_change 46 = .ok (.aload_n 0, 1) := by decide +kernel
theorem dX5_change_47 : decode cX5_change 47 = .ok (.ldc 34, 2) := by decide +kernel
theorem dX5_change_49 : decode cX5_change 49 = .ok (.invokevirtual 36, 3) := by decide +kernel
theorem dX5_change_52 : decode cX5_change 52 = .ok (.ireturn, 1) := by decide +kernel
theorem dX5_serves_0 : decode cX5_serves 0 = .ok (.aload_n 0, 1) := by decide +kernel
theorem dX5_serves_1 : decode cX5_serves 1 = .ok (.iload_n 1, 1) := by decide +kernel
theorem dX5_serves_2 : decode cX5_serves 2 = .ok (.invokevirtual 83, 3) := by decide +kernel
theorem dX5_serves_5 : decode cX5_serves 5 = .ok (.istore_n 2, 1) := by decide +kernel
theorem dX5_serves_6 : decode cX5_serves 6 = .ok (.aload_n 0, 1) := by decide +kernel
theorem dX5_serves_7 : decode cX5_serves 7 = .ok (.getfield 9, 3) := by decide +kernel
theorem dX5_serves_10 : decode cX5_serves 10 = .ok (.iconst 3, 1) := by decide +kernel
theorem dX5_serves_11 : decode cX5_serves 11 = .ok (.aload_n 0, 1) := by decide +kernel
theorem dX5_serves_12 : decode cX5_serves 12 = .ok (.getfield 9, 3) := by decide +kernel
theorem dX5_serves_15 : decode cX5_serves 15 = .ok (.iconst 3, 1) := by decide +kernel
theorem dX5_serves_16 : decode cX5_serves 16 = .ok (.iaload, 1) := by decide +kernel
theorem dX5_serves_17 : decode cX5_serves 17 = .ok (.iload_n 2, 1) := by decide +kernel
theorem dX5_serves_18 : decode cX5_serves 18 = .ok (.iadd, 1) := by decide +kernel
theorem dX5_serves_19 : decode cX5_serves 19 = .ok (.iconst 0, 1) := by decide +kernel
theorem dX5_serves_20 : decode cX5_serves 20 = .ok (.ldc 89, 2) := by decide +kernel
theorem dX5_serves_22 : decode cX5_serves 22 = .ok (.invokestatic 90, 3) := by decide +kernel
theorem dX5_serves_25 : decode cX5_serves 25 = .ok (.iastore, 1) := by decide +kernel
theorem dX5_serves_26 : decode cX5_serves 26 = .ok (.aload_n 0, 1) := by decide +kernel
theorem dX5_serves_27 : decode cX5_serves 27 = .ok (.iload_n 1, 1) := by decide +kernel
theorem dX5_serves_28 : decode cX5_serves 28 = .ok (.iconst 5, 1) := by decide +kernel
theorem dX5_serves_29 : decode cX5_serves 29 = .ok (.aload_n 0, 1) := by decide +kernel
theorem dX5_serves_30 : decode cX5_serves 30 = .ok (.iload_n 1, 1) := by decide +kernel
theorem dX5_serves_31 : decode cX5_serves 31 = .ok (.iconst 5, 1) := by decide +kernel
theorem dX5_serves_32 : decode cX5_serves 32 = .ok (.invokevirtual 44, 3) := by decide +kernel
theorem dX5_serves_35 : decode cX5_serves 35 = .ok (.iconst 1, 1) := by decide +kernel
theorem dX5_serves_36 : decode cX5_serves 36 = .ok (.iadd, 1) := by decide +kernel
theorem dX5_serves_37 : decode cX5_serves 37 = .ok (.iconst 0, 1) := by decide +kernel
theorem dX5_serves_38 : decode cX5_serves 38 = .ok (.sipush 9999, 3) := by decide +kernel
theorem dX5_serves_41 : decode cX5_serves 41 = .ok (.invokestatic 90, 3) := by decide +kernel
theorem dX5_serves_44 : decode cX5_serves 44 = .ok (.invokevirtual 59, 3) := by decide +kernel
theorem dX5_serves_47 : decode cX5_serves 47 = .ok (.aload_n 0, 1) := by decide +kernel
theorem dX5_serves_48 : decode cX5_serves 48 = .ok (.iload_n 1, 1) := by decide +kernel
theorem dX5_serves_49 : decode cX5_serves 49 = .ok (.iconst 1, 1) := by decide +kernel
theorem dX5_serves_50 : decode cX5_serves 50 = .ok (.bipush 10, 2) := by decide +kernel
theorem dX5_serves_52 : decode cX5_serves 52 = .ok (.invokevirtual 59, 3) := by decide +kernel
theorem dX5_serves_55 : decode cX5_serves 55 = .ok (.aload_n 0, 1) := by decide +kernel
theorem dX5_serves_56 : decode cX5_serves 56 = .ok (.iload_n 1, 1) := by decide +kernel
theorem dX5_serves_57 : decode cX5_serves 57 = .ok (.iconst 2, 1) := by decide +kernel
theorem dX5_serves_58 : decode cX5_serves 58 = .ok (.bipush 10, 2) := by decide +kernel
theorem dX5_serves_60 : decode cX5_serves 60 = .ok (.invokevirtual 59, 3) := by decide +kernel
theorem dX5_serves_63 : decode cX5_serves 63 = .ok (.aload_n 0, 1) := by decide +kernel
theorem dX5_serves_64 : decode cX5_serves 64 = .ok (.iload_n 1, 1) := by decide +kernel
theorem dX5_serves_65 : decode cX5_serves 65 = .ok (.iconst 3, 1) := by decide +kernel
theorem dX5_serves_66 : decode cX5_serves 66 = .ok (.iconst 0, 1) := by decide +kernel
theorem dX5_serves_67 : decode cX5_serves 67 = .ok (.invokevirtual 59, 3) := by decide +kernel
theorem dX5_serves_70 : decode cX5_serves 70 = .ok (.iload_n 2, 1) := by decide +kernel
theorem dX5_serves_71 : decode cX5_serves 71 = .ok (.ireturn, 1) := by decide +kernel
theorem dX5_serve_0 : decode cX5_serve 0 = .ok (.aload_n 0, 1) := by decide +kernel
theorem dX5_serve_1 : decode cX5_serve 1 = .ok (.iload_n 1, 1) := by decide +kernel
theorem dX5_serve_2 : decode cX5_serve 2 = .ok (.invokevirtual 68, 3) := by decide +kernel
theorem dX5_serve_5 : decode cX5_serve 5 = .ok (.ifCond .ne 10, 3) := by decide +kernel
theorem dX5_serve_8 : decode cX5_serve 8 = .ok (.aload_n 0, 1) := by decide +kernel
theorem dX5_serve_9 : decode cX5_serve 9 = .ok (.ldc 34, 2) := by decide +kernel
theorem dX5_serve_11 : decode cX5_serve 11 = .ok (.invokevirtual 36, 3) := by decide +kernel
theorem dX5_serve_14 : decode cX5_serve 14 = .ok (.ireturn, 1) := by decide +kernel
theorem dX5_serve_15 : decode cX5_serve 15 = .ok (.aload_n 0, 1) := by decide +kernel
theorem dX5_serve_16 : decode cX5_serve 16 = .ok (.iload_n 1, 1) := by decide +kernel
theorem dX5_serve_17 : decode cX5_serve 17 = .ok (.iconst 4, 1) := by decide +kernel
theorem dX5_serve_18 : decode cX5_serve 18 = .ok (.invokevirtual 44, 3) := by decide +kernel
theorem dX5_serve_21 : decode cX5_serve 21 = .ok (.iconst 1, 1) := by decide +kernel
theorem dX5_serve_22 : decode cX5_serve 22 = .ok (.if_icmp .ne 12, 3) := by decide +kernel
theorem dX5_serve_25 : decode cX5_serve 25 = .ok (.aload_n 0, 1) := by decide +kernel
theorem dX5_serve_26 : decode cX5_serve 26 = .ok (.ldc 94, 2) := by decide +kernel
theorem dX5_serve_28 : decode cX5_serve 28 = .ok (.invokevirtual 36, 3) := by decide +kernel
theorem dX5_serve_31 : decode cX5_serve 31 = .ok (.goto 8, 3) := by decide +kernel
theorem dX5_serve_34 : decode cX5_serve 34 = .ok (.aload_n 0, 1) := by decide +kernel
theorem dX5_serve_35 : decode cX5_serve 35 = .ok (.iload_n 1, 1) := by decide +kernel
theorem dX5_serve_36 : decode cX5_serve 36 = .ok (.invokevirtual 95, 3) := by decide +kernel
theorem dX5_serve_39 : decode cX5_serve 39 = .ok (.ireturn, 1) := by decide +kernel
theorem dX5_does_0 : decode cX5_does 0 = .ok (.aload_n 0, 1) := by decide +kernel
theorem dX5_does_1 : decode cX5_does 1 = .ok (.getfield 9, 3) := by decide +kernel
theorem dX5_does_4 : decode cX5_does 4 = .ok (.iconst 1, 1) := by decide +kernel
theorem dX5_does_5 : decode cX5_does 5 = .ok (.aload_n 0, 1) := by decide +kernel
theorem dX5_does_6 : decode cX5_does 6 = .ok (.getfield 9, 3) := by decide +kernel
theorem dX5_does_9 : decode cX5_does 9 = .ok (.iconst 1, 1) := by decide +kernel
theorem dX5_does_10 : decode cX5_does 10 = .ok (.iaload, 1) := by decide +kernel
theorem dX5_does_11 : decode cX5_does 11 = .ok (.getstatic 98, 3) := by decide +kernel
theorem dX5_does_14 : decode cX5_does 14 = .ok (.iload_n 1, 1) := by decide +kernel
theorem dX5_does_15 : decode cX5_does 15 = .ok (.iaload, 1) := by decide +kernel
theorem dX5_does_16 : decode cX5_does 16 = .ok (.iadd, 1) := by decide +kernel
theorem dX5_does_17 : decode cX5_does 17 = .ok (.iconst 0, 1) := by decide +kernel
theorem dX5_does_18 : decode cX5_does 18 = .ok (.bipush 99, 2) := by decide +kernel
theorem dX5_does_20 : decode cX5_does 20 = .ok (.invokestatic 90, 3) := by decide +kernel
theorem dX5_does_23 : decode cX5_does 23 = .ok (.iastore, 1) := by decide +kernel
theorem dX5_does_24 : decode cX5_does 24 = .ok (.aload_n 0, 1) := by decide +kernel
theorem dX5_does_25 : decode cX5_does 25 = .ok (.getfield 9, 3) := by decide +kernel
theorem dX5_does_28 : decode cX5_does 28 = .ok (.iconst 1, 1) := by decide +kernel
theorem dX5_does_29 : decode cX5_does 29 = .ok (.iaload, 1) := by decide +kernel
theorem dX5_does_30 : decode cX5_does 30 = .ok (.ireturn, 1) := by decide +kernel
theorem dX5_act_0 : decode cX5_act 0 = .ok (.iload_n 1, 1) := by decide +kernel
theorem dX5_act_1 : decode cX5_act 1 = .ok (.invokestatic 55, 3) := by decide +kernel
theorem dX5_act_4 : decode cX5_act 4 = .ok (.ifCond .eq 11, 3) := by decide +kernel
theorem dX5_act_7 : decode cX5_act 7 = .ok (.aload_n 0, 1) := by decide +kernel
theorem dX5_act_8 : decode cX5_act 8 = .ok (.iload_n 1, 1) := by decide +kernel
theorem dX5_act_9 : decode cX5_act 9 = .ok (.invokevirtual 101, 3) := by decide +kernel
theorem dX5_act_12 : decode cX5_act 12 = .ok (.goto 9, 3) := by decide +kernel
theorem dX5_act_15 : decode cX5_act 15 = .ok (.aload_n 0, 1) := by decide +kernel
theorem dX5_act_16 : decode cX5_act 16 = .ok (.ldc 34, 2) := by decide +kernel
theorem dX5_act_18 : decode cX5_act 18 = .ok (.invokevirtual 36, 3) := by decide +kernel
theorem dX5_act_21 : decode cX5_act 21 = .ok (.ireturn, 1) := by decide +kernel
theorem dX5_cooks_0 : decode cX5_cooks 0 = .ok (.aload_n 0, 1) := by decide +kernel
theorem dX5_cooks_1 : decode cX5_cooks 1 = .ok (.getfield 9, 3) := by decide +kernel
theorem dX5_cooks_4 : decode cX5_cooks 4 = .ok (.iconst 1, 1) := by decide +kernel
theorem dX5_cooks_5 : decode cX5_cooks 5 = .ok (.iaload, 1) := by decide +kernel
theorem dX5_cooks_6 : decode cX5_cooks 6 = .ok (.aload_n 0, 1) := by decide +kernel
theorem dX5_cooks_7 : decode cX5_cooks 7 = .ok (.iload_n 1, 1) := by decide +kernel
theorem dX5_cooks_8 : decode cX5_cooks 8 = .ok (.invokevirtual 71, 3) := by decide +kernel
theorem dX5_cooks_11 : decode cX5_cooks 11 = .ok (.if_icmp .ge 11, 3) := by decide +kernel
theorem dX5_cooks_14 : decode cX5_cooks 14 = .ok (.aload_n 0, 1) := by decide +kernel
theorem dX5_cooks_15 : decode cX5_cooks 15 = .ok (.iload_n 1, 1) := by decide +kernel
theorem dX5_cooks_16 : decode cX5_cooks 16 = .ok (.iconst 3, 1) := by decide +kernel
theorem dX5_cooks_17 : decode cX5_cooks 17 = .ok (.iconst 1, 1) := by decide +kernel
theorem dX5_cooks_18 : decode cX5_cooks 18 = .ok (.invokevirtual 59, 3) := by decide +kernel
theorem dX5_cooks_21 : decode cX5_cooks 21 = .ok (.return_, 1) := by decide +kernel
theorem dX5_cooks_22 : decode cX5_cooks 22 = .ok (.aload_n 0, 1) := by decide +kernel
theorem dX5_cooks_23 : decode cX5_cooks 23 = .ok (.iload_n 1, 1) := by decide +kernel
theorem dX5_cooks_24 : decode cX5_cooks 24 = .ok (.iconst 1, 1) := by decide +kernel
theorem dX5_cooks_25 : decode cX5_cooks 25 = .ok (.invokevirtual 44, 3) := by decide +kernel
theorem dX5_cooks_28 : decode cX5_cooks 28 = .ok (.aload_n 0, 1) := by decide +kernel
theorem dX5_cooks_29 : decode cX5_cooks 29 = .ok (.iload_n 1, 1) := by decide +kernel
theorem dX5_cooks_30 : decode cX5_cooks 30 = .ok (.invokevirtual 74, 3) := by decide +kernel
theorem dX5_cooks_33 : decode cX5_cooks 33 = .ok (.iadd, 1) := by decide +kernel
theorem dX5_cooks_34 : decode cX5_cooks 34 = .ok (.iconst 0, 1) := by decide +kernel
theorem dX5_cooks_35 : decode cX5_cooks 35 = .ok (.bipush 99, 2) := by decide +kernel
theorem dX5_cooks_37 : decode cX5_cooks 37 = .ok (.invokestatic 90, 3) := by decide +kernel
theorem dX5_cooks_40 : decode cX5_cooks 40 = .ok (.istore_n 2, 1) := by decide +kernel
theorem dX5_cooks_41 : decode cX5_cooks 41 = .ok (.aload_n 0, 1) := by decide +kernel
theorem dX5_cooks_42 : decode cX5_cooks 42 = .ok (.iload_n 1, 1) := by decide +kernel
theorem dX5_cooks_43 : decode cX5_cooks 43 = .ok (.iconst 2, 1) := by decide +kernel
theorem dX5_cooks_44 : decode cX5_cooks 44 = .ok (.invokevirtual 44, 3) := by decide +kernel
theorem dX5_cooks_47 : decode cX5_cooks 47 = .ok (.aload_n 0, 1) := by decide +kernel
theorem dX5_cooks_48 : decode cX5_cooks 48 = .ok (.iload_n 1, 1) := by decide +kernel
theorem dX5_cooks_49 : decode cX5_cooks 49 = .ok (.invokevirtual 77, 3) := by decide +kernel
theorem dX5_cooks_52 : decode cX5_cooks 52 = .ok (.iadd, 1) := by decide +kernel
theorem dX5_cooks_53 : decode cX5_cooks 53 = .ok (.iconst 0, 1) := by decide +kernel
theorem dX5_cooks_54 : decode cX5_cooks 54 = .ok (.bipush 99, 2) := by decide +kernel
theorem dX5_cooks_56 : decode cX5_cooks 56 = .ok (.invokestatic 90, 3) := by decide +kernel
theorem dX5_cooks_59 : decode cX5_cooks 59 = .ok (.istore_n 3, 1) := by decide +kernel
theorem dX5_cooks_60 : decode cX5_cooks 60 = .ok (.aload_n 0, 1) := by decide +kernel
theorem dX5_cooks_61 : decode cX5_cooks 61 = .ok (.iload_n 1, 1) := by decide +kernel
theorem dX5_cooks_62 : decode cX5_cooks 62 = .ok (.iconst 1, 1) := by decide +kernel
theorem dX5_cooks_63 : decode cX5_cooks 63 = .ok (.iload_n 2, 1) := by decide +kernel
theorem dX5_cooks_64 : decode cX5_cooks 64 = .ok (.invokevirtual 59, 3) := by decide +kernel
theorem dX5_cooks_67 : decode cX5_cooks 67 = .ok (.aload_n 0, 1) := by decide +kernel
theorem dX5_cooks_68 : decode cX5_cooks 68 = .ok (.iload_n 1, 1) := by decide +kernel
theorem dX5_cooks_69 : decode cX5_cooks 69 = .ok (.iconst 2, 1) := by decide +kernel
theorem dX5_cooks_70 : decode cX5_cooks 70 = .ok (.iload_n 3, 1) := by decide +kernel
theorem dX5_cooks_71 : decode cX5_cooks 71 = .ok (.invokevirtual 59, 3) := by decide +kernel
theorem dX5_cooks_74 : decode cX5_cooks 74 = .ok (.aload_n 0, 1) := by decide +kernel
theorem dX5_cooks_75 : decode cX5_cooks 75 = .ok (.iload_n 1, 1) := by decide +kernel
theorem dX5_cooks_76 : decode cX5_cooks 76 = .ok (.iconst 3, 1) := by decide +kernel
theorem dX5_cooks_77 : decode cX5_cooks 77 = .ok (.iload_n 2, 1) := by decide +kernel
theorem dX5_cooks_78 : decode cX5_cooks 78 = .ok (.aload_n 0, 1) := by decide +kernel
theorem dX5_cooks_79 : decode cX5_cooks 79 = .ok (.iload_n 1, 1) := by decide +kernel
theorem dX5_cooks_80 : decode cX5_cooks 80 = .ok (.invokevirtual 80, 3) := by decide +kernel
theorem dX5_cooks_83 : decode cX5_cooks 83 = .ok (.if_icmp .le 7, 3) := by decide +kernel
theorem dX5_cooks_86 : decode cX5_cooks 86 = .ok (.iconst 1, 1) := by decide +kernel
theorem dX5_cooks_87 : decode cX5_cooks 87 = .ok (.goto 4, 3) := by decide +kernel
theorem dX5_cooks_90 : decode cX5_cooks 90 = .ok (.iconst 0, 1) := by decide +kernel
theorem dX5_cooks_91 : decode cX5_cooks 91 = .ok (.invokevirtual 59, 3) := by decide +kernel
theorem dX5_cooks_94 : decode cX5_cooks 94 = .ok (.return_, 1) := by decide +kernel
theorem dX5_goes_0 : decode cX5_goes 0 = .ok (.aload_n 0, 1) := by decide +kernel
theorem dX5_goes_1 : decode cX5_goes 1 = .ok (.aload_n 0, 1) := by decide +kernel
theorem dX5_goes_2 : decode cX5_goes 2 = .ok (.invokevirtual 48, 3) := by decide +kernel
theorem dX5_goes_5 : decode cX5_goes 5 = .ok (.invokevirtual 101, 3) := by decide +kernel
theorem dX5_goes_8 : decode cX5_goes 8 = .ok (.istore_n 1, 1) := by decide +kernel
theorem dX5_goes_9 : decode cX5_goes 9 = .ok (.iconst 0, 1) := by decide +kernel
theorem dX5_goes_10 : decode cX5_goes 10 = .ok (.istore_n 2, 1) := by decide +kernel
theorem dX5_goes_11 : decode cX5_goes 11 = .ok (.iload_n 2, 1) := by decide +kernel
theorem dX5_goes_12 : decode cX5_goes 12 = .ok (.aload_n 0, 1) := by decide +kernel
theorem dX5_goes_13 : decode cX5_goes 13 = .ok (.getfield 9, 3) := by decide +kernel
theorem dX5_goes_16 : decode cX5_goes 16 = .ok (.iconst 5, 1) := by decide +kernel
theorem dX5_goes_17 : decode cX5_goes 17 = .ok (.iaload, 1) := by decide +kernel
theorem dX5_goes_18 : decode cX5_goes 18 = .ok (.if_icmp .ge 22, 3) := by decide +kernel
theorem dX5_goes_21 : decode cX5_goes 21 = .ok (.aload_n 0, 1) := by decide +kernel
theorem dX5_goes_22 : decode cX5_goes 22 = .ok (.iload_n 2, 1) := by decide +kernel
theorem dX5_goes_23 : decode cX5_goes 23 = .ok (.invokevirtual 104, 3) := by decide +kernel
theorem dX5_goes_26 : decode cX5_goes 26 = .ok (.ifCond .eq 8, 3) := by decide +kernel
theorem dX5_goes_29 : decode cX5_goes 29 = .ok (.aload_n 0, 1) := by decide +kernel
theorem dX5_goes_30 : decode cX5_goes 30 = .ok (.iload_n 2, 1) := by decide +kernel
theorem dX5_goes_31 : decode cX5_goes 31 = .ok (.invokevirtual 107, 3) := by decide +kernel
theorem dX5_goes_34 : decode cX5_goes 34 = .ok (.iinc 2 1, 3) := by decide +kernel
theorem dX5_goes_37 : decode cX5_goes 37 = .ok (.goto (-26), 3) := by decide +kernel
theorem dX5_goes_40 : decode cX5_goes 40 = .ok (.aload_n 0, 1) := by decide +kernel
theorem dX5_goes_41 : decode cX5_goes 41 = .ok (.getfield 9, 3) := by decide +kernel
theorem dX5_goes_44 : decode cX5_goes 44 = .ok (.iconst 0, 1) := by decide +kernel
theorem dX5_goes_45 : decode cX5_goes 45 = .ok (.aload_n 0, 1) := by decide +kernel
theorem dX5_goes_46 : decode cX5_goes 46 = .ok (.getfield 9, 3) := by decide +kernel
theorem dX5_goes_49 : decode cX5_goes 49 = .ok (.iconst 0, 1) := by decide +kernel
theorem dX5_goes_50 : decode cX5_goes 50 = .ok (.iaload, 1) := by decide +kernel
theorem dX5_goes_51 : decode cX5_goes 51 = .ok (.iconst 1, 1) := by decide +kernel
theorem dX5_goes_52 : decode cX5_goes 52 = .ok (.iadd, 1) := by decide +kernel
theorem dX5_goes_53 : decode cX5_goes 53 = .ok (.iconst 0, 1) := by decide +kernel
theorem dX5_goes_54 : decode cX5_goes 54 = .ok (.ldc 89, 2) := by decide +kernel
theorem dX5_goes_56 : decode cX5_goes 56 = .ok (.invokestatic 90, 3) := by decide +kernel
theorem dX5_goes_59 : decode cX5_goes 59 = .ok (.iastore, 1) := by decide +kernel
theorem dX5_goes_60 : decode cX5_goes 60 = .ok (.return_, 1) := by decide +kernel
theorem dX5_goesFor_0 : decode cX5_goesFor 0 = .ok (.iconst 0, 1) := by decide +kernel
theorem dX5_goesFor_1 : decode cX5_goesFor 1 = .ok (.istore_n 2, 1) := by decide +kernel
theorem dX5_goesFor_2 : decode cX5_goesFor 2 = .ok (.iload_n 2, 1) := by decide +kernel
theorem dX5_goesFor_3 : decode cX5_goesFor 3 = .ok (.iload_n 1, 1) := by decide +kernel
theorem dX5_goesFor_4 : decode cX5_goesFor 4 = .ok (.if_icmp .ge 13, 3) := by decide +kernel
theorem dX5_goesFor_7 : decode cX5_goesFor 7 = .ok (.aload_n 0, 1) := by decide +kernel
theorem dX5_goesFor_8 : decode cX5_goesFor 8 = .ok (.invokevirtual 111, 3) := by decide +kernel
theorem dX5_goesFor_11 : decode cX5_goesFor 11 = .ok (.iinc 2 1, 3) := by decide +kernel
theorem dX5_goesFor_14 : decode cX5_goesFor 14 = .ok (.goto (-12), 3) := by decide +kernel
theorem dX5_goesFor_17 : decode cX5_goesFor 17 = .ok (.return_, 1) := by decide +kernel
theorem dX5_go_0 : decode cX5_go 0 = .ok (.iload_n 1, 1) := by decide +kernel
theorem dX5_go_1 : decode cX5_go 1 = .ok (.iconst 1, 1) := by decide +kernel
theorem dX5_go_2 : decode cX5_go 2 = .ok (.bipush 60, 2) := by decide +kernel
theorem dX5_go_4 : decode cX5_go 4 = .ok (.invokestatic 40, 3) := by decide +kernel
theorem dX5_go_7 : decode cX5_go 7 = .ok (.ifCond .ne 10, 3) := by decide +kernel
theorem dX5_go_10 : decode cX5_go 10 = .ok (.aload_n 0, 1) := by decide +kernel
theorem dX5_go_11 : decode cX5_go 11 = .ok (.ldc 34, 2) := by decide +kernel
theorem dX5_go_13 : decode cX5_go 13 = .ok (.invokevirtual 36, 3) := by decide +kernel
theorem dX5_go_16 : decode cX5_go 16 = .ok (.ireturn, 1) := by decide +kernel
theorem dX5_go_17 : decode cX5_go 17 = .ok (.aload_n 0, 1) := by decide +kernel
theorem dX5_go_18 : decode cX5_go 18 = .ok (.getfield 9, 3) := by decide +kernel
theorem dX5_go_21 : decode cX5_go 21 = .ok (.iconst 0, 1) := by decide +kernel
theorem dX5_go_22 : decode cX5_go 22 = .ok (.iaload, 1) := by decide +kernel
theorem dX5_go_23 : decode cX5_go 23 = .ok (.iload_n 1, 1) := by decide +kernel
theorem dX5_go_24 : decode cX5_go 24 = .ok (.iadd, 1) := by decide +kernel
theorem dX5_go_25 : decode cX5_go 25 = .ok (.ldc 89, 2) := by decide +kernel
theorem dX5_go_27 : decode cX5_go 27 = .ok (.if_icmp .le 10, 3) := by decide +kernel
theorem dX5_go_30 : decode cX5_go 30 = .ok (.aload_n 0, 1) := by decide +kernel
theorem dX5_go_31 : decode cX5_go 31 = .ok (.ldc 94, 2) := by decide +kernel
theorem dX5_go_33 : decode cX5_go 33 = .ok (.invokevirtual 36, 3) := by decide +kernel
theorem dX5_go_36 : decode cX5_go 36 = .ok (.ireturn, 1) := by decide +kernel
theorem dX5_go_37 : decode cX5_go 37 = .ok (.aload_n 0, 1) := by decide +kernel
theorem dX5_go_38 : decode cX5_go 38 = .ok (.iload_n 1, 1) := by decide +kernel
theorem dX5_go_39 : decode cX5_go 39 = .ok (.invokevirtual 114, 3) := by decide +kernel
theorem dX5_go_42 : decode cX5_go 42 = .ok (.aload_n 0, 1) := by decide +kernel
theorem dX5_go_43 : decode cX5_go 43 = .ok (.getfield 9, 3) := by decide +kernel
theorem dX5_go_46 : decode cX5_go 46 = .ok (.iconst 1, 1) := by decide +kernel
theorem dX5_go_47 : decode cX5_go 47 = .ok (.iaload, 1) := by decide +kernel
theorem dX5_go_48 : decode cX5_go 48 = .ok (.ireturn, 1) := by decide +kernel
theorem dX5_wouldSplit_0 : decode cX5_wouldSplit 0 = .ok (.iconst 0, 1) := by decide +kernel
theorem dX5_wouldSplit_1 : decode cX5_wouldSplit 1 = .ok (.istore_n 1, 1) := by decide +kernel
theorem dX5_wouldSplit_2 : decode cX5_wouldSplit 2 = .ok (.iconst 0, 1) := by decide +kernel
theorem dX5_wouldSplit_3 : decode cX5_wouldSplit 3 = .ok (.istore_n 2, 1) := by decide +kernel
theorem dX5_wouldSplit_4 : decode cX5_wouldSplit 4 = .ok (.iload_n 2, 1) := by decide +kernel
theorem dX5_wouldSplit_5 : decode cX5_wouldSplit 5 = .ok (.aload_n 0, 1) := by decide +kernel
theorem dX5_wouldSplit_6 : decode cX5_wouldSplit 6 = .ok (.getfield 9, 3) := by decide +kernel
theorem dX5_wouldSplit_9 : decode cX5_wouldSplit 9 = .ok (.iconst 5, 1) := by decide +kernel
theorem dX5_wouldSplit_10 : decode cX5_wouldSplit 10 = .ok (.iaload, 1) := by decide +kernel
theorem dX5_wouldSplit_11 : decode cX5_wouldSplit 11 = .ok (.if_icmp .ge 41, 3) := by decide +kernel
theorem dX5_wouldSplit_14 : decode cX5_wouldSplit 14 = .ok (.iload_n 1, 1) := by decide +kernel
theorem dX5_wouldSplit_15 : decode cX5_wouldSplit 15 = .ok (.aload_n 0, 1) := by decide +kernel
theorem dX5_wouldSplit_16 : decode cX5_wouldSplit 16 = .ok (.iload_n 2, 1) := by decide +kernel
theorem dX5_wouldSplit_17 : decode cX5_wouldSplit 17 = .ok (.invokevirtual 104, 3) := by decide +kernel
theorem dX5_wouldSplit_20 : decode cX5_wouldSplit 20 = .ok (.ifCond .eq 23, 3) := by decide +kernel
theorem dX5_wouldSplit_23 : decode cX5_wouldSplit 23 = .ok (.aload_n 0, 1) := by decide +kernel
theorem dX5_wouldSplit_24 : decode cX5_wouldSplit 24 = .ok (.getfield 9, 3) := by decide +kernel
theorem dX5_wouldSplit_27 : decode cX5_wouldSplit 27 = .ok (.iconst 1, 1) := by decide +kernel
theorem dX5_wouldSplit_28 : decode cX5_wouldSplit 28 = .ok (.iaload, 1) := by decide +kernel
theorem dX5_wouldSplit_29 : decode cX5_wouldSplit 29 = .ok (.aload_n 0, 1) := by decide +kernel
theorem dX5_wouldSplit_30 : decode cX5_wouldSplit 30 = .ok (.iload_n 2, 1) := by decide +kernel
theorem dX5_wouldSplit_31 : decode cX5_wouldSplit 31 = .ok (.invokevirtual 71, 3) := by decide +kernel
theorem dX5_wouldSplit_34 : decode cX5_wouldSplit 34 = .ok (.if_icmp .ge 9, 3) := by decide +kernel
theorem dX5_wouldSplit_37 : decode cX5_wouldSplit 37 = .ok (.iconst 1, 1) := by decide +kernel
theorem dX5_wouldSplit_38 : decode cX5_wouldSplit 38 = .ok (.iload_n 2, 1) := by decide +kernel
theorem dX5_wouldSplit_39 : decode cX5_wouldSplit 39 = .ok (.ishl, 1) := by decide +kernel
theorem dX5_wouldSplit_40 : decode cX5_wouldSplit 40 = .ok (.goto 4, 3) := by decide +kernel
theorem dX5_wouldSplit_43 : decode cX5_wouldSplit 43 = .ok (.iconst 0, 1) := by decide +kernel
theorem dX5_wouldSplit_44 : decode cX5_wouldSplit 44 = .ok (.ior, 1) := by decide +kernel
theorem dX5_wouldSplit_45 : decode cX5_wouldSplit 45 = .ok (.istore_n 1, 1) := by decide +kernel
theorem dX5_wouldSplit_46 : decode cX5_wouldSplit 46 = .ok (.iinc 2 1, 3) := by decide +kernel
theorem dX5_wouldSplit_49 : decode cX5_wouldSplit 49 = .ok (.goto (-45), 3) := by decide +kernel
theorem dX5_wouldSplit_52 : decode cX5_wouldSplit 52 = .ok (.iload_n 1, 1) := by decide +kernel
theorem dX5_wouldSplit_53 : decode cX5_wouldSplit 53 = .ok (.ireturn, 1) := by decide +kernel
theorem dX5_allGive_0 : decode cX5_allGive 0 = .ok (.iconst 0, 1) := by decide +kernel
theorem dX5_allGive_1 : decode cX5_allGive 1 = .ok (.istore_n 1, 1) := by decide +kernel
theorem dX5_allGive_2 : decode cX5_allGive 2 = .ok (.iconst 0, 1) := by decide +kernel
theorem dX5_allGive_3 : decode cX5_allGive 3 = .ok (.istore_n 2, 1) := by decide +kernel
theorem dX5_allGive_4 : decode cX5_allGive 4 = .ok (.iload_n 2, 1) := by decide +kernel
theorem dX5_allGive_5 : decode cX5_allGive 5 = .ok (.aload_n 0, 1) := by decide +kernel
theorem dX5_allGive_6 : decode cX5_allGive 6 = .ok (.getfield 9, 3) := by decide +kernel
theorem dX5_allGive_9 : decode cX5_allGive 9 = .ok (.iconst 5, 1) := by decide +kernel
theorem dX5_allGive_10 : decode cX5_allGive 10 = .ok (.iaload, 1) := by decide +kernel
theorem dX5_allGive_11 : decode cX5_allGive 11 = .ok (.if_icmp .ge 17, 3) := by decide +kernel
theorem dX5_allGive_14 : decode cX5_allGive 14 = .ok (.iload_n 1, 1) := by decide +kernel
theorem dX5_allGive_15 : decode cX5_allGive 15 = .ok (.aload_n 0, 1) := by decide +kernel
theorem dX5_allGive_16 : decode cX5_allGive 16 = .ok (.iload_n 2, 1) := by decide +kernel
theorem dX5_allGive_17 : decode cX5_allGive 17 = .ok (.invokevirtual 83, 3) := by decide +kernel
theorem dX5_allGive_20 : decode cX5_allGive 20 = .ok (.iadd, 1) := by decide +kernel
theorem dX5_allGive_21 : decode cX5_allGive 21 = .ok (.istore_n 1, 1) := by decide +kernel
theorem dX5_allGive_22 : decode cX5_allGive 22 = .ok (.iinc 2 1, 3) := by decide +kernel
theorem dX5_allGive_25 : decode cX5_allGive 25 = .ok (.goto (-21), 3) := by decide +kernel
theorem dX5_allGive_28 : decode cX5_allGive 28 = .ok (.iload_n 1, 1) := by decide +kernel
theorem dX5_allGive_29 : decode cX5_allGive 29 = .ok (.ireturn, 1) := by decide +kernel
theorem dX5_finest_0 : decode cX5_finest 0 = .ok (.iconst (-1), 1) := by decide +kernel
theorem dX5_finest_1 : decode cX5_finest 1 = .ok (.istore_n 1, 1) := by decide +kernel
theorem dX5_finest_2 : decode cX5_finest 2 = .ok (.iconst 0, 1) := by decide +kernel
theorem dX5_finest_3 : decode cX5_finest 3 = .ok (.istore_n 2, 1) := by decide +kernel
theorem dX5_finest_4 : decode cX5_finest 4 = .ok (.iload_n 2, 1) := by decide +kernel
theorem dX5_finest_5 : decode cX5_finest 5 = .ok (.aload_n 0, 1) := by decide +kernel
theorem dX5_finest_6 : decode cX5_finest 6 = .ok (.getfield 9, 3) := by decide +kernel
theorem dX5_finest_9 : decode cX5_finest 9 = .ok (.iconst 5, 1) := by decide +kernel
theorem dX5_finest_10 : decode cX5_finest 10 = .ok (.iaload, 1) := by decide +kernel
theorem dX5_finest_11 : decode cX5_finest 11 = .ok (.if_icmp .ge 32, 3) := by decide +kernel
theorem dX5_finest_14 : decode cX5_finest 14 = .ok (.iload_n 1, 1) := by decide +kernel
theorem dX5_finest_15 : decode cX5_finest 15 = .ok (.ifCond .lt 16, 3) := by decide +kernel
theorem dX5_finest_18 : decode cX5_finest 18 = .ok (.aload_n 0, 1) := by decide +kernel
theorem dX5_finest_19 : decode cX5_finest 19 = .ok (.iload_n 2, 1) := by decide +kernel
theorem dX5_finest_20 : decode cX5_finest 20 = .ok (.invokevirtual 83, 3) := by decide +kernel
theorem dX5_finest_23 : decode cX5_finest 23 = .ok (.aload_n 0, 1) := by decide +kernel
theorem dX5_finest_24 : decode cX5_finest 24 = .ok (.iload_n 1, 1) := by decide +kernel
theorem dX5_finest_25 : decode cX5_finest 25 = .ok (.invokevirtual 83, 3) := by decide +kernel
theorem dX5_finest_28 : decode cX5_finest 28 = .ok (.if_icmp .le 7, 3) := by decide +kernel
theorem dX5_finest_31 : decode cX5_finest 31 = .ok (.iload_n 2, 1) := by decide +kernel
theorem dX5_finest_32 : decode cX5_finest 32 = .ok (.goto 4, 3) := by decide +kernel
theorem dX5_finest_35 : decode cX5_finest 35 = .ok (.iload_n 1, 1) := by decide +kernel
theorem dX5_finest_36 : decode cX5_finest 36 = .ok (.istore_n 1, 1) := by decide +kernel
theorem dX5_finest_37 : decode cX5_finest 37 = .ok (.iinc 2 1, 3) := by decide +kernel
theorem dX5_finest_40 : decode cX5_finest 40 = .ok (.goto (-36), 3) := by decide +kernel
theorem dX5_finest_43 : decode cX5_finest 43 = .ok (.iload_n 1, 1) := by decide +kernel
theorem dX5_finest_44 : decode cX5_finest 44 = .ok (.ireturn, 1) := by decide +kernel
theorem dX5_now_0 : decode cX5_now 0 = .ok (.iload_n 1, 1) := by decide +kernel
theorem dX5_now_1 : decode cX5_now 1 = .ok (.tableswitch 90 0 7 #[47, 47, 56, 63, 69, 75, 80, 85], 47) := by decide +kernel
theorem dX5_now_48 : decode cX5_now 48 = .ok (.aload_n 0, 1) := by decide +kernel
theorem dX5_now_49 : decode cX5_now 49 = .ok (.getfield 9, 3) := by decide +kernel
theorem dX5_now_52 : decode cX5_now 52 = .ok (.iconst 0, 1) := by decide +kernel
theorem dX5_now_53 : decode cX5_now 53 = .ok (.iload_n 1, 1) := by decide +kernel
theorem dX5_now_54 : decode cX5_now 54 = .ok (.iadd, 1) := by decide +kernel
theorem dX5_now_55 : decode cX5_now 55 = .ok (.iaload, 1) := by decide +kernel
theorem dX5_now_56 : decode cX5_now 56 = .ok (.ireturn, 1) := by decide +kernel
theorem dX5_now_57 : decode cX5_now 57 = .ok (.aload_n 0, 1) := by decide +kernel
theorem dX5_now_58 : decode cX5_now 58 = .ok (.getfield 9, 3) := by decide +kernel
theorem dX5_now_61 : decode cX5_now 61 = .ok (.iconst 3, 1) := by decide +kernel
theorem dX5_now_62 : decode cX5_now 62 = .ok (.iaload, 1) := by decide +kernel
theorem dX5_now_63 : decode cX5_now 63 = .ok (.ireturn, 1) := by decide +kernel
theorem dX5_now_64 : decode cX5_now 64 = .ok (.aload_n 0, 1) := by decide +kernel
theorem dX5_now_65 : decode cX5_now 65 = .ok (.iconst 3, 1) := by decide +kernel
theorem dX5_now_66 : decode cX5_now 66 = .ok (.invokevirtual 117, 3) := by decide +kernel
theorem dX5_now_69 : decode cX5_now 69 = .ok (.ireturn, 1) := by decide +kernel
theorem dX5_now_70 : decode cX5_now 70 = .ok (.aload_n 0, 1) := by decide +kernel
theorem dX5_now_71 : decode cX5_now 71 = .ok (.iconst 4, 1) := by decide +kernel
theorem dX5_now_72 : decode cX5_now 72 = .ok (.invokevirtual 117, 3) := by decide +kernel
theorem dX5_now_75 : decode cX5_now 75 = .ok (.ireturn, 1) := by decide +kernel
theorem dX5_now_76 : decode cX5_now 76 = .ok (.aload_n 0, 1) := by decide +kernel
theorem dX5_now_77 : decode cX5_now 77 = .ok (.invokevirtual 120, 3) := by decide +kernel
theorem dX5_now_80 : decode cX5_now 80 = .ok (.ireturn, 1) := by decide +kernel
theorem dX5_now_81 : decode cX5_now 81 = .ok (.aload_n 0, 1) := by decide +kernel
theorem dX5_now_82 : decode cX5_now 82 = .ok (.invokevirtual 123, 3) := by decide +kernel
theorem dX5_now_85 : decode cX5_now 85 = .ok (.ireturn, 1) := by decide +kernel
theorem dX5_now_86 : decode cX5_now 86 = .ok (.aload_n 0, 1) := by decide +kernel
theorem dX5_now_87 : decode cX5_now 87 = .ok (.invokevirtual 126, 3) := by decide +kernel
theorem dX5_now_90 : decode cX5_now 90 = .ok (.ireturn, 1) := by decide +kernel
theorem dX5_now_91 : decode cX5_now 91 = .ok (.aload_n 0, 1) := by decide +kernel
theorem dX5_now_92 : decode cX5_now 92 = .ok (.ldc 34, 2) := by decide +kernel
theorem dX5_now_94 : decode cX5_now 94 = .ok (.invokevirtual 36, 3) := by decide +kernel
theorem dX5_now_97 : decode cX5_now 97 = .ok (.ireturn, 1) := by decide +kernel
theorem dX5_thinks_0 : decode cX5_thinks 0 = .ok (.aload_n 0, 1) := by decide +kernel
theorem dX5_thinks_1 : decode cX5_thinks 1 = .ok (.getfield 9, 3) := by decide +kernel
theorem dX5_thinks_4 : decode cX5_thinks 4 = .ok (.aload_n 0, 1) := by decide +kernel
theorem dX5_thinks_5 : decode cX5_thinks 5 = .ok (.getfield 16, 3) := by decide +kernel
theorem dX5_thinks_8 : decode cX5_thinks 8 = .ok (.invokestatic 129, 3) := by decide +kernel
theorem dX5_thinks_11 : decode cX5_thinks 11 = .ok (.return_, 1) := by decide +kernel
theorem dX5_putsBack_0 : decode cX5_putsBack 0 = .ok (.aload_n 0, 1) := by decide +kernel
theorem dX5_putsBack_1 : decode cX5_putsBack 1 = .ok (.getfield 16, 3) := by decide +kernel
theorem dX5_putsBack_4 : decode cX5_putsBack 4 = .ok (.aload_n 0, 1) := by decide +kernel
theorem dX5_putsBack_5 : decode cX5_putsBack 5 = .ok (.getfield 9, 3) := by decide +kernel
theorem dX5_putsBack_8 : decode cX5_putsBack 8 = .ok (.invokestatic 129, 3) := by decide +kernel
theorem dX5_putsBack_11 : decode cX5_putsBack 11 = .ok (.return_, 1) := by decide +kernel
theorem dX5_ahead_0 : decode cX5_ahead 0 = .ok (.aload_n 0, 1) := by decide +kernel
theorem dX5_ahead_1 : decode cX5_ahead 1 = .ok (.iload_n 1, 1) := by decide +kernel
theorem dX5_ahead_2 : decode cX5_ahead 2 = .ok (.invokevirtual 68, 3) := by decide +kernel
theorem dX5_ahead_5 : decode cX5_ahead 5 = .ok (.ifCond .eq 28, 3) := by decide +kernel
theorem dX5_ahead_8 : decode cX5_ahead 8 = .ok (.iload_n 2, 1) := by decide +kernel
theorem dX5_ahead_9 : decode cX5_ahead 9 = .ok (.iconst 1, 1) := by decide +kernel
theorem dX5_ahead_10 : decode cX5_ahead 10 = .ok (.iconst 3, 1) := by decide +kernel
theorem dX5_ahead_11 : decode cX5_ahead 11 = .ok (.invokestatic 40, 3) := by decide +kernel
theorem dX5_ahead_14 : decode cX5_ahead 14 = .ok (.ifCond .ne 9, 3) := by decide +kernel
theorem dX5_ahead_17 : decode cX5_ahead 17 = .ok (.iload_n 2, 1) := by decide +kernel
theorem dX5_ahead_18 : decode cX5_ahead 18 = .ok (.bipush 10, 2) := by decide +kernel
theorem dX5_ahead_20 : decode cX5_ahead 20 = .ok (.if_icmp .ne 13, 3) := by decide +kernel
theorem dX5_ahead_23 : decode cX5_ahead 23 = .ok (.iload_n 3, 1) := by decide +kernel
theorem dX5_ahead_24 : decode cX5_ahead 24 = .ok (.iconst 0, 1) := by decide +kernel
theorem dX5_ahead_25 : decode cX5_ahead 25 = .ok (.bipush 100, 2) := by decide +kernel
theorem dX5_ahead_27 : decode cX5_ahead 27 = .ok (.invokestatic 40, 3) := by decide +kernel
theorem dX5_ahead_30 : decode cX5_ahead 30 = .ok (.ifCond .ne 10, 3) := by decide +kernel
theorem dX5_ahead_33 : decode cX5_ahead 33 = .ok (.aload_n 0, 1) := by decide +kernel
theorem dX5_ahead_34 : decode cX5_ahead 34 = .ok (.ldc 34, 2) := by decide +kernel
theorem dX5_ahead_36 : decode cX5_ahead 36 = .ok (.invokevirtual 36, 3) := by decide +kernel
theorem dX5_ahead_39 : decode cX5_ahead 39 = .ok (.ireturn, 1) := by decide +kernel
theorem dX5_ahead_40 : decode cX5_ahead 40 = .ok (.aload_n 0, 1) := by decide +kernel
theorem dX5_ahead_41 : decode cX5_ahead 41 = .ok (.invokevirtual 133, 3) := by decide +kernel
theorem dX5_ahead_44 : decode cX5_ahead 44 = .ok (.aload_n 0, 1) := by decide +kernel
theorem dX5_ahead_45 : decode cX5_ahead 45 = .ok (.iload_n 3, 1) := by decide +kernel
theorem dX5_ahead_46 : decode cX5_ahead 46 = .ok (.invokevirtual 114, 3) := by decide +kernel
theorem dX5_ahead_49 : decode cX5_ahead 49 = .ok (.iload_n 2, 1) := by decide +kernel
theorem dX5_ahead_50 : decode cX5_ahead 50 = .ok (.bipush 10, 2) := by decide +kernel
theorem dX5_ahead_52 : decode cX5_ahead 52 = .ok (.if_icmp .ne 11, 3) := by decide +kernel
theorem dX5_ahead_55 : decode cX5_ahead 55 = .ok (.aload_n 0, 1) := by decide +kernel
theorem dX5_ahead_56 : decode cX5_ahead 56 = .ok (.iload_n 1, 1) := by decide +kernel
theorem dX5_ahead_57 : decode cX5_ahead 57 = .ok (.invokevirtual 83, 3) := by decide +kernel
theorem dX5_ahead_60 : decode cX5_ahead 60 = .ok (.goto 9, 3) := by decide +kernel
theorem dX5_ahead_63 : decode cX5_ahead 63 = .ok (.aload_n 0, 1) := by decide +kernel
theorem dX5_ahead_64 : decode cX5_ahead 64 = .ok (.iload_n 1, 1) := by decide +kernel
theorem dX5_ahead_65 : decode cX5_ahead 65 = .ok (.iload_n 2, 1) := by decide +kernel
theorem dX5_ahead_66 : decode cX5_ahead 66 = .ok (.invokevirtual 44, 3) := by decide +kernel
theorem dX5_ahead_69 : decode cX5_ahead 69 = .ok (.istore 4, 2) := by decide +kernel
theorem dX5_ahead_71 : decode cX5_ahead 71 = .ok (.aload_n 0, 1) := by decide +kernel
theorem dX5_ahead_72 : decode cX5_ahead 72 = .ok (.invokevirtual 136, 3) := by decide +kernel
theorem dX5_ahead_75 : decode cX5_ahead 75 = .ok (.iload 4, 2) := by decide +kernel
theorem dX5_ahead_77 : decode cX5_ahead 77 = .ok (.ireturn, 1) := by decide +kernel
theorem dX5_mood_0 : decode cX5_mood 0 = .ok (.iload_n 1, 1) := by decide +kernel
theorem dX5_mood_1 : decode cX5_mood 1 = .ok (.iconst 0, 1) := by decide +kernel
theorem dX5_mood_2 : decode cX5_mood 2 = .ok (.bipush 100, 2) := by decide +kernel
theorem dX5_mood_4 : decode cX5_mood 4 = .ok (.invokestatic 40, 3) := by decide +kernel
theorem dX5_mood_7 : decode cX5_mood 7 = .ok (.ifCond .ne 10, 3) := by decide +kernel
theorem dX5_mood_10 : decode cX5_mood 10 = .ok (.aload_n 0, 1) := by decide +kernel
theorem dX5_mood_11 : decode cX5_mood 11 = .ok (.ldc 34, 2) := by decide +kernel
theorem dX5_mood_13 : decode cX5_mood 13 = .ok (.invokevirtual 36, 3) := by decide +kernel
theorem dX5_mood_16 : decode cX5_mood 16 = .ok (.ireturn, 1) := by decide +kernel
theorem dX5_mood_17 : decode cX5_mood 17 = .ok (.aload_n 0, 1) := by decide +kernel
theorem dX5_mood_18 : decode cX5_mood 18 = .ok (.invokevirtual 133, 3) := by decide +kernel
theorem dX5_mood_21 : decode cX5_mood 21 = .ok (.aload_n 0, 1) := by decide +kernel
theorem dX5_mood_22 : decode cX5_mood 22 = .ok (.iload_n 1, 1) := by decide +kernel
theorem dX5_mood_23 : decode cX5_mood 23 = .ok (.invokevirtual 114, 3) := by decide +kernel
theorem dX5_mood_26 : decode cX5_mood 26 = .ok (.aload_n 0, 1) := by decide +kernel
theorem dX5_mood_27 : decode cX5_mood 27 = .ok (.getfield 9, 3) := by decide +kernel
theorem dX5_mood_30 : decode cX5_mood 30 = .ok (.iconst 1, 1) := by decide +kernel
theorem dX5_mood_31 : decode cX5_mood 31 = .ok (.iaload, 1) := by decide +kernel
theorem dX5_mood_32 : decode cX5_mood 32 = .ok (.istore_n 2, 1) := by decide +kernel
theorem dX5_mood_33 : decode cX5_mood 33 = .ok (.aload_n 0, 1) := by decide +kernel
theorem dX5_mood_34 : decode cX5_mood 34 = .ok (.invokevirtual 136, 3) := by decide +kernel
theorem dX5_mood_37 : decode cX5_mood 37 = .ok (.iload_n 2, 1) := by decide +kernel
theorem dX5_mood_38 : decode cX5_mood 38 = .ok (.ireturn, 1) := by decide +kernel
theorem dX5_splits_0 : decode cX5_splits 0 = .ok (.aload_n 0, 1) := by decide +kernel
theorem dX5_splits_1 : decode cX5_splits 1 = .ok (.iload_n 1, 1) := by decide +kernel
theorem dX5_splits_2 : decode cX5_splits 2 = .ok (.invokevirtual 68, 3) := by decide +kernel
theorem dX5_splits_5 : decode cX5_splits 5 = .ok (.ifCond .ne 10, 3) := by decide +kernel
theorem dX5_splits_8 : decode cX5_splits 8 = .ok (.aload_n 0, 1) := by decide +kernel
theorem dX5_splits_9 : decode cX5_splits 9 = .ok (.ldc 34, 2) := by decide +kernel
theorem dX5_splits_11 : decode cX5_splits 11 = .ok (.invokevirtual 36, 3) := by decide +kernel
theorem dX5_splits_14 : decode cX5_splits 14 = .ok (.ireturn, 1) := by decide +kernel
theorem dX5_splits_15 : decode cX5_splits 15 = .ok (.aload_n 0, 1) := by decide +kernel
theorem dX5_splits_16 : decode cX5_splits 16 = .ok (.invokevirtual 133, 3) := by decide +kernel
theorem dX5_splits_19 : decode cX5_splits 19 = .ok (.iconst 0, 1) := by decide +kernel
theorem dX5_splits_20 : decode cX5_splits 20 = .ok (.istore_n 2, 1) := by decide +kernel
theorem dX5_splits_21 : decode cX5_splits 21 = .ok (.iload_n 2, 1) := by decide +kernel
theorem dX5_splits_22 : decode cX5_splits 22 = .ok (.sipush 200, 3) := by decide +kernel
theorem dX5_splits_25 : decode cX5_splits 25 = .ok (.if_icmp .gt 22, 3) := by decide +kernel
theorem dX5_splits_28 : decode cX5_splits 28 = .ok (.aload_n 0, 1) := by decide +kernel
theorem dX5_splits_29 : decode cX5_splits 29 = .ok (.iload_n 1, 1) := by decide +kernel
theorem dX5_splits_30 : decode cX5_splits 30 = .ok (.iconst 3, 1) := by decide +kernel
theorem dX5_splits_31 : decode cX5_splits 31 = .ok (.invokevirtual 44, 3) := by decide +kernel
theorem dX5_splits_34 : decode cX5_splits 34 = .ok (.ifCond .ne 13, 3) := by decide +kernel
theorem dX5_splits_37 : decode cX5_splits 37 = .ok (.aload_n 0, 1) := by decide +kernel
theorem dX5_splits_38 : decode cX5_splits 38 = .ok (.invokevirtual 111, 3) := by decide +kernel
theorem dX5_splits_41 : decode cX5_splits 41 = .ok (.iinc 2 1, 3) := by decide +kernel
theorem dX5_splits_44 : decode cX5_splits 44 = .ok (.goto (-23), 3) := by decide +kernel
theorem dX5_splits_47 : decode cX5_splits 47 = .ok (.aload_n 0, 1) := by decide +kernel
theorem dX5_splits_48 : decode cX5_splits 48 = .ok (.invokevirtual 136, 3) := by decide +kernel
theorem dX5_splits_51 : decode cX5_splits 51 = .ok (.iload_n 2, 1) := by decide +kernel
theorem dX5_splits_52 : decode cX5_splits 52 = .ok (.sipush 200, 3) := by decide +kernel
theorem dX5_splits_55 : decode cX5_splits 55 = .ok (.if_icmp .le 12, 3) := by decide +kernel
theorem dX5_splits_58 : decode cX5_splits 58 = .ok (.aload_n 0, 1) := by decide +kernel
theorem dX5_splits_59 : decode cX5_splits 59 = .ok (.ldc 35, 2) := by decide +kernel
theorem dX5_splits_61 : decode cX5_splits 61 = .ok (.invokevirtual 36, 3) := by decide +kernel
theorem dX5_splits_64 : decode cX5_splits 64 = .ok (.goto 4, 3) := by decide +kernel
theorem dX5_splits_67 : decode cX5_splits 67 = .ok (.iload_n 2, 1) := by decide +kernel
theorem dX5_splits_68 : decode cX5_splits 68 = .ok (.ireturn, 1) := by decide +kernel
theorem dX5_ready_0 : decode cX5_ready 0 = .ok (.aload_n 0, 1) := by decide +kernel
theorem dX5_ready_1 : decode cX5_ready 1 = .ok (.iload_n 1, 1) := by decide +kernel
theorem dX5_ready_2 : decode cX5_ready 2 = .ok (.invokevirtual 68, 3) := by decide +kernel
theorem dX5_ready_5 : decode cX5_ready 5 = .ok (.ifCond .eq 14, 3) := by decide +kernel
theorem dX5_ready_8 : decode cX5_ready 8 = .ok (.iload_n 2, 1) := by decide +kernel
theorem dX5_ready_9 : decode cX5_ready 9 = .ok (.iconst 0, 1) := by decide +kernel
theorem dX5_ready_10 : decode cX5_ready 10 = .ok (.sipush 999, 3) := by decide +kernel
theorem dX5_ready_13 : decode cX5_ready 13 = .ok (.invokestatic 40, 3) := by decide +kernel
theorem dX5_ready_16 : decode cX5_ready 16 = .ok (.ifCond .ne 10, 3) := by decide +kernel
theorem dX5_ready_19 : decode cX5_ready 19 = .ok (.aload_n 0, 1) := by decide +kernel
theorem dX5_ready_20 : decode cX5_ready 20 = .ok (.ldc 34, 2) := by decide +kernel
theorem dX5_ready_22 : decode cX5_ready 22 = .ok (.invokevirtual 36, 3) := by decide +kernel
theorem dX5_ready_25 : decode cX5_ready 25 = .ok (.ireturn, 1) := by decide +kernel
theorem dX5_ready_26 : decode cX5_ready 26 = .ok (.aload_n 0, 1) := by decide +kernel
theorem dX5_ready_27 : decode cX5_ready 27 = .ok (.invokevirtual 133, 3) := by decide +kernel
theorem dX5_ready_30 : decode cX5_ready 30 = .ok (.iconst 0, 1) := by decide +kernel
theorem dX5_ready_31 : decode cX5_ready 31 = .ok (.istore_n 3, 1) := by decide +kernel
theorem dX5_ready_32 : decode cX5_ready 32 = .ok (.iload_n 3, 1) := by decide +kernel
theorem dX5_ready_33 : decode cX5_ready 33 = .ok (.sipush 200, 3) := by decide +kernel
theorem dX5_ready_36 : decode cX5_ready 36 = .ok (.if_icmp .gt 22, 3) := by decide +kernel
theorem dX5_ready_39 : decode cX5_ready 39 = .ok (.aload_n 0, 1) := by decide +kernel
theorem dX5_ready_40 : decode cX5_ready 40 = .ok (.iload_n 1, 1) := by decide +kernel
theorem dX5_ready_41 : decode cX5_ready 41 = .ok (.invokevirtual 83, 3) := by decide +kernel
theorem dX5_ready_44 : decode cX5_ready 44 = .ok (.iload_n 2, 1) := by decide +kernel
theorem dX5_ready_45 : decode cX5_ready 45 = .ok (.if_icmp .ge 13, 3) := by decide +kernel
theorem dX5_ready_48 : decode cX5_ready 48 = .ok (.aload_n 0, 1) := by decide +kernel
theorem dX5_ready_49 : decode cX5_ready 49 = .ok (.invokevirtual 111, 3) := by decide +kernel
theorem dX5_ready_52 : decode cX5_ready 52 = .ok (.iinc 3 1, 3) := by decide +kernel
theorem dX5_ready_55 : decode cX5_ready 55 = .ok (.goto (-23), 3) := by decide +kernel
theorem dX5_ready_58 : decode cX5_ready 58 = .ok (.aload_n 0, 1) := by decide +kernel
theorem dX5_ready_59 : decode cX5_ready 59 = .ok (.invokevirtual 136, 3) := by decide +kernel
theorem dX5_ready_62 : decode cX5_ready 62 = .ok (.iload_n 3, 1) := by decide +kernel
theorem dX5_ready_63 : decode cX5_ready 63 = .ok (.sipush 200, 3) := by decide +kernel
theorem dX5_ready_66 : decode cX5_ready 66 = .ok (.if_icmp .le 12, 3) := by decide +kernel
theorem dX5_ready_69 : decode cX5_ready 69 = .ok (.aload_n 0, 1) := by decide +kernel
theorem dX5_ready_70 : decode cX5_ready 70 = .ok (.ldc 35, 2) := by decide +kernel
theorem dX5_ready_72 : decode cX5_ready 72 = .ok (.invokevirtual 36, 3) := by decide +kernel
theorem dX5_ready_75 : decode cX5_ready 75 = .ok (.goto 4, 3) := by decide +kernel
theorem dX5_ready_78 : decode cX5_ready 78 = .ok (.iload_n 3, 1) := by decide +kernel
theorem dX5_ready_79 : decode cX5_ready 79 = .ok (.ireturn, 1) := by decide +kernel
theorem dX5_peace_0 : decode cX5_peace 0 = .ok (.iload_n 1, 1) := by decide +kernel
theorem dX5_peace_1 : decode cX5_peace 1 = .ok (.iconst 0, 1) := by decide +kernel
theorem dX5_peace_2 : decode cX5_peace 2 = .ok (.bipush 99, 2) := by decide +kernel
theorem dX5_peace_4 : decode cX5_peace 4 = .ok (.invokestatic 40, 3) := by decide +kernel
theorem dX5_peace_7 : decode cX5_peace 7 = .ok (.ifCond .ne 10, 3) := by decide +kernel
theorem dX5_peace_10 : decode cX5_peace 10 = .ok (.aload_n 0, 1) := by decide +kernel
theorem dX5_peace_11 : decode cX5_peace 11 = .ok (.ldc 34, 2) := by decide +kernel
theorem dX5_peace_13 : decode cX5_peace 13 = .ok (.invokevirtual 36, 3) := by decide +kernel
theorem dX5_peace_16 : decode cX5_peace 16 = .ok (.ireturn, 1) := by decide +kernel
theorem dX5_peace_17 : decode cX5_peace 17 = .ok (.aload_n 0, 1) := by decide +kernel
theorem dX5_peace_18 : decode cX5_peace 18 = .ok (.invokevirtual 133, 3) := by decide +kernel
theorem dX5_peace_21 : decode cX5_peace 21 = .ok (.iconst 0, 1) := by decide +kernel
theorem dX5_peace_22 : decode cX5_peace 22 = .ok (.istore_n 2, 1) := by decide +kernel
theorem dX5_peace_23 : decode cX5_peace 23 = .ok (.iload_n 2, 1) := by decide +kernel
theorem dX5_peace_24 : decode cX5_peace 24 = .ok (.sipush 200, 3) := by decide +kernel
theorem dX5_peace_27 : decode cX5_peace 27 = .ok (.if_icmp .gt 23, 3) := by decide +kernel
theorem dX5_peace_30 : decode cX5_peace 30 = .ok (.aload_n 0, 1) := by decide +kernel
theorem dX5_peace_31 : decode cX5_peace 31 = .ok (.getfield 9, 3) := by decide +kernel
theorem dX5_peace_34 : decode cX5_peace 34 = .ok (.iconst 1, 1) := by decide +kernel
theorem dX5_peace_35 : decode cX5_peace 35 = .ok (.iaload, 1) := by decide +kernel
theorem dX5_peace_36 : decode cX5_peace 36 = .ok (.iload_n 1, 1) := by decide +kernel
theorem dX5_peace_37 : decode cX5_peace 37 = .ok (.if_icmp .le 13, 3) := by decide +kernel
theorem dX5_peace_40 : decode cX5_peace 40 = .ok (.aload_n 0, 1) := by decide +kernel
theorem dX5_peace_41 : decode cX5_peace 41 = .ok (.invokevirtual 111, 3) := by decide +kernel
theorem dX5_peace_44 : decode cX5_peace 44 = .ok (.iinc 2 1, 3) := by decide +kernel
theorem dX5_peace_47 : decode cX5_peace 47 = .ok (.goto (-24), 3) := by decide +kernel
theorem dX5_peace_50 : decode cX5_peace 50 = .ok (.aload_n 0, 1) := by decide +kernel
theorem dX5_peace_51 : decode cX5_peace 51 = .ok (.invokevirtual 136, 3) := by decide +kernel
theorem dX5_peace_54 : decode cX5_peace 54 = .ok (.iload_n 2, 1) := by decide +kernel
theorem dX5_peace_55 : decode cX5_peace 55 = .ok (.sipush 200, 3) := by decide +kernel
theorem dX5_peace_58 : decode cX5_peace 58 = .ok (.if_icmp .le 12, 3) := by decide +kernel
theorem dX5_peace_61 : decode cX5_peace 61 = .ok (.aload_n 0, 1) := by decide +kernel
theorem dX5_peace_62 : decode cX5_peace 62 = .ok (.ldc 35, 2) := by decide +kernel
theorem dX5_peace_64 : decode cX5_peace 64 = .ok (.invokevirtual 36, 3) := by decide +kernel
theorem dX5_peace_67 : decode cX5_peace 67 = .ok (.goto 4, 3) := by decide +kernel
theorem dX5_peace_70 : decode cX5_peace 70 = .ok (.iload_n 2, 1) := by decide +kernel
theorem dX5_peace_71 : decode cX5_peace 71 = .ok (.ireturn, 1) := by decide +kernel
theorem dX5_deedFor_0 : decode cX5_deedFor 0 = .ok (.iload_n 1, 1) := by decide +kernel
theorem dX5_deedFor_1 : decode cX5_deedFor 1 = .ok (.iconst 0, 1) := by decide +kernel
theorem dX5_deedFor_2 : decode cX5_deedFor 2 = .ok (.iconst 5, 1) := by decide +kernel
theorem dX5_deedFor_3 : decode cX5_deedFor 3 = .ok (.invokestatic 40, 3) := by decide +kernel
theorem dX5_deedFor_6 : decode cX5_deedFor 6 = .ok (.ifCond .eq 13, 3) := by decide +kernel
theorem dX5_deedFor_9 : decode cX5_deedFor 9 = .ok (.iload_n 2, 1) := by decide +kernel
theorem dX5_deedFor_10 : decode cX5_deedFor 10 = .ok (.iconst 0, 1) := by decide +kernel
theorem dX5_deedFor_11 : decode cX5_deedFor 11 = .ok (.bipush 60, 2) := by decide +kernel
theorem dX5_deedFor_13 : decode cX5_deedFor 13 = .ok (.invokestatic 40, 3) := by decide +kernel
theorem dX5_deedFor_16 : decode cX5_deedFor 16 = .ok (.ifCond .ne 10, 3) := by decide +kernel
theorem dX5_deedFor_19 : decode cX5_deedFor 19 = .ok (.aload_n 0, 1) := by decide +kernel
theorem dX5_deedFor_20 : decode cX5_deedFor 20 = .ok (.ldc 34, 2) := by decide +kernel
theorem dX5_deedFor_22 : decode cX5_deedFor 22 = .ok (.invokevirtual 36, 3) := by decide +kernel
theorem dX5_deedFor_25 : decode cX5_deedFor 25 = .ok (.ireturn, 1) := by decide +kernel
theorem dX5_deedFor_26 : decode cX5_deedFor 26 = .ok (.aload_n 0, 1) := by decide +kernel
theorem dX5_deedFor_27 : decode cX5_deedFor 27 = .ok (.invokevirtual 133, 3) := by decide +kernel
theorem dX5_deedFor_30 : decode cX5_deedFor 30 = .ok (.iconst 0, 1) := by decide +kernel
theorem dX5_deedFor_31 : decode cX5_deedFor 31 = .ok (.istore_n 3, 1) := by decide +kernel
theorem dX5_deedFor_32 : decode cX5_deedFor 32 = .ok (.iconst (-1), 1) := by decide +kernel
theorem dX5_deedFor_33 : decode cX5_deedFor 33 = .ok (.istore 4, 2) := by decide +kernel
theorem dX5_deedFor_35 : decode cX5_deedFor 35 = .ok (.iconst 0, 1) := by decide +kernel
theorem dX5_deedFor_36 : decode cX5_deedFor 36 = .ok (.istore 5, 2) := by decide +kernel
theorem dX5_deedFor_38 : decode cX5_deedFor 38 = .ok (.iload 5, 2) := by decide +kernel
theorem dX5_deedFor_40 : decode cX5_deedFor 40 = .ok (.bipush 12, 2) := by decide +kernel
theorem dX5_deedFor_42 : decode cX5_deedFor 42 = .ok (.if_icmp .ge 65, 3) := by decide +kernel
theorem dX5_deedFor_45 : decode cX5_deedFor 45 = .ok (.aload_n 0, 1) := by decide +kernel
theorem dX5_deedFor_46 : decode cX5_deedFor 46 = .ok (.getfield 9, 3) := by decide +kernel
theorem dX5_deedFor_49 : decode cX5_deedFor 49 = .ok (.bipush 6, 2) := by decide +kernel
theorem dX5_deedFor_51 : decode cX5_deedFor 51 = .ok (.iload_n 1, 1) := by decide +kernel
theorem dX5_deedFor_52 : decode cX5_deedFor 52 = .ok (.iadd, 1) := by decide +kernel
theorem dX5_deedFor_53 : decode cX5_deedFor 53 = .ok (.iload 5, 2) := by decide +kernel
theorem dX5_deedFor_55 : decode cX5_deedFor 55 = .ok (.iastore, 1) := by decide +kernel
theorem dX5_deedFor_56 : decode cX5_deedFor 56 = .ok (.aload_n 0, 1) := by decide +kernel
theorem dX5_deedFor_57 : decode cX5_deedFor 57 = .ok (.iload_n 2, 1) := by decide +kernel
theorem dX5_deedFor_58 : decode cX5_deedFor 58 = .ok (.invokevirtual 114, 3) := by decide +kernel
theorem dX5_deedFor_61 : decode cX5_deedFor 61 = .ok (.aload_n 0, 1) := by decide +kernel
theorem dX5_deedFor_62 : decode cX5_deedFor 62 = .ok (.invokevirtual 123, 3) := by decide +kernel
theorem dX5_deedFor_65 : decode cX5_deedFor 65 = .ok (.istore 6, 2) := by decide +kernel
theorem dX5_deedFor_67 : decode cX5_deedFor 67 = .ok (.aload_n 0, 1) := by decide +kernel
theorem dX5_deedFor_68 : decode cX5_deedFor 68 = .ok (.invokevirtual 136, 3) := by decide +kernel
theorem dX5_deedFor_71 : decode cX5_deedFor 71 = .ok (.iload 6, 2) := by decide +kernel
theorem dX5_deedFor_73 : decode cX5_deedFor 73 = .ok (.iload 4, 2) := by decide +kernel
theorem dX5_deedFor_75 : decode cX5_deedFor 75 = .ok (.if_icmp .le 8, 3) := by decide +kernel
theorem dX5_deedFor_78 : decode cX5_deedFor 78 = .ok (.iload 5, 2) := by decide +kernel
theorem dX5_deedFor_80 : decode cX5_deedFor 80 = .ok (.goto 4, 3) := by decide +kernel
theorem dX5_deedFor_83 : decode cX5_deedFor 83 = .ok (.iload_n 3, 1) := by decide +kernel
theorem dX5_deedFor_84 : decode cX5_deedFor 84 = .ok (.istore_n 3, 1) := by decide +kernel
theorem dX5_deedFor_85 : decode cX5_deedFor 85 = .ok (.iload 6, 2) := by decide +kernel
theorem dX5_deedFor_87 : decode cX5_deedFor 87 = .ok (.iload 4, 2) := by decide +kernel
theorem dX5_deedFor_89 : decode cX5_deedFor 89 = .ok (.if_icmp .le 8, 3) := by decide +kernel
theorem dX5_deedFor_92 : decode cX5_deedFor 92 = .ok (.iload 6, 2) := by decide +kernel
theorem dX5_deedFor_94 : decode cX5_deedFor 94 = .ok (.goto 5, 3) := by decide +kernel
theorem dX5_deedFor_97 : decode cX5_deedFor 97 = .ok (.iload 4, 2) := by decide +kernel
theorem dX5_deedFor_99 : decode cX5_deedFor 99 = .ok (.istore 4, 2) := by decide +kernel
theorem dX5_deedFor_101 : decode cX5_deedFor 101 = .ok (.iinc 5 1, 3) := by decide +kernel
theorem dX5_deedFor_104 : decode cX5_deedFor 104 = .ok (.goto (-66), 3) := by decide +kernel
theorem dX5_deedFor_107 : decode cX5_deedFor 107 = .ok (.iload_n 3, 1) := by decide +kernel
theorem dX5_deedFor_108 : decode cX5_deedFor 108 = .ok (.ireturn, 1) := by decide +kernel
theorem dX5_grudgeFor_0 : decode cX5_grudgeFor 0 = .ok (.aload_n 0, 1) := by decide +kernel
theorem dX5_grudgeFor_1 : decode cX5_grudgeFor 1 = .ok (.iload_n 1, 1) := by decide +kernel
theorem dX5_grudgeFor_2 : decode cX5_grudgeFor 2 = .ok (.invokevirtual 68, 3) := by decide +kernel
theorem dX5_grudgeFor_5 : decode cX5_grudgeFor 5 = .ok (.ifCond .eq 13, 3) := by decide +kernel
theorem dX5_grudgeFor_8 : decode cX5_grudgeFor 8 = .ok (.iload_n 2, 1) := by decide +kernel
theorem dX5_grudgeFor_9 : decode cX5_grudgeFor 9 = .ok (.iconst 0, 1) := by decide +kernel
theorem dX5_grudgeFor_10 : decode cX5_grudgeFor 10 = .ok (.bipush 60, 2) := by decide +kernel
theorem dX5_grudgeFor_12 : decode cX5_grudgeFor 12 = .ok (.invokestatic 40, 3) := by decide +kernel
theorem dX5_grudgeFor_15 : decode cX5_grudgeFor 15 = .ok (.ifCond .ne 10, 3) := by decide +kernel
theorem dX5_grudgeFor_18 : decode cX5_grudgeFor 18 = .ok (.aload_n 0, 1) := by decide +kernel
theorem dX5_grudgeFor_19 : decode cX5_grudgeFor 19 = .ok (.ldc 34, 2) := by decide +kernel
theorem dX5_grudgeFor_21 : decode cX5_grudgeFor 21 = .ok (.invokevirtual 36, 3) := by decide +kernel
theorem dX5_grudgeFor_24 : decode cX5_grudgeFor 24 = .ok (.ireturn, 1) := by decide +kernel
theorem dX5_grudgeFor_25 : decode cX5_grudgeFor 25 = .ok (.aload_n 0, 1) := by decide +kernel
theorem dX5_grudgeFor_26 : decode cX5_grudgeFor 26 = .ok (.invokevirtual 133, 3) := by decide +kernel
theorem dX5_grudgeFor_29 : decode cX5_grudgeFor 29 = .ok (.iconst (-1), 1) := by decide +kernel
theorem dX5_grudgeFor_30 : decode cX5_grudgeFor 30 = .ok (.istore_n 3, 1) := by decide +kernel
theorem dX5_grudgeFor_31 : decode cX5_grudgeFor 31 = .ok (.iconst 0, 1) := by decide +kernel
theorem dX5_grudgeFor_32 : decode cX5_grudgeFor 32 = .ok (.istore 4, 2) := by decide +kernel
theorem dX5_grudgeFor_34 : decode cX5_grudgeFor 34 = .ok (.iload 4, 2) := by decide +kernel
theorem dX5_grudgeFor_36 : decode cX5_grudgeFor 36 = .ok (.bipush 99, 2) := by decide +kernel
theorem dX5_grudgeFor_38 : decode cX5_grudgeFor 38 = .ok (.if_icmp .gt 46, 3) := by decide +kernel
theorem dX5_grudgeFor_41 : decode cX5_grudgeFor 41 = .ok (.iload_n 3, 1) := by decide +kernel
theorem dX5_grudgeFor_42 : decode cX5_grudgeFor 42 = .ok (.ifCond .ge 42, 3) := by decide +kernel
theorem dX5_grudgeFor_45 : decode cX5_grudgeFor 45 = .ok (.aload_n 0, 1) := by decide +kernel
theorem dX5_grudgeFor_46 : decode cX5_grudgeFor 46 = .ok (.getfield 9, 3) := by decide +kernel
theorem dX5_grudgeFor_49 : decode cX5_grudgeFor 49 = .ok (.iconst 1, 1) := by decide +kernel
theorem dX5_grudgeFor_50 : decode cX5_grudgeFor 50 = .ok (.iload 4, 2) := by decide +kernel
theorem dX5_grudgeFor_52 : decode cX5_grudgeFor 52 = .ok (.iastore, 1) := by decide +kernel
theorem dX5_grudgeFor_53 : decode cX5_grudgeFor 53 = .ok (.aload_n 0, 1) := by decide +kernel
theorem dX5_grudgeFor_54 : decode cX5_grudgeFor 54 = .ok (.iload_n 2, 1) := by decide +kernel
theorem dX5_grudgeFor_55 : decode cX5_grudgeFor 55 = .ok (.invokevirtual 114, 3) := by decide +kernel
theorem dX5_grudgeFor_58 : decode cX5_grudgeFor 58 = .ok (.aload_n 0, 1) := by decide +kernel
theorem dX5_grudgeFor_59 : decode cX5_grudgeFor 59 = .ok (.iload_n 1, 1) := by decide +kernel
theorem dX5_grudgeFor_60 : decode cX5_grudgeFor 60 = .ok (.iconst 3, 1) := by decide +kernel
theorem dX5_grudgeFor_61 : decode cX5_grudgeFor 61 = .ok (.invokevirtual 44, 3) := by decide +kernel
theorem dX5_grudgeFor_64 : decode cX5_grudgeFor 64 = .ok (.ifCond .ne 8, 3) := by decide +kernel
theorem dX5_grudgeFor_67 : decode cX5_grudgeFor 67 = .ok (.iload 4, 2) := by decide +kernel
theorem dX5_grudgeFor_69 : decode cX5_grudgeFor 69 = .ok (.goto 4, 3) := by decide +kernel
theorem dX5_grudgeFor_72 : decode cX5_grudgeFor 72 = .ok (.iconst (-1), 1) := by decide +kernel
theorem dX5_grudgeFor_73 : decode cX5_grudgeFor 73 = .ok (.istore_n 3, 1) := by decide +kernel
theorem dX5_grudgeFor_74 : decode cX5_grudgeFor 74 = .ok (.aload_n 0, 1) := by decide +kernel
theorem dX5_grudgeFor_75 : decode cX5_grudgeFor 75 = .ok (.invokevirtual 136, 3) := by decide +kernel
theorem dX5_grudgeFor_78 : decode cX5_grudgeFor 78 = .ok (.iinc 4 1, 3) := by decide +kernel
theorem dX5_grudgeFor_81 : decode cX5_grudgeFor 81 = .ok (.goto (-47), 3) := by decide +kernel
theorem dX5_grudgeFor_84 : decode cX5_grudgeFor 84 = .ok (.aload_n 0, 1) := by decide +kernel
theorem dX5_grudgeFor_85 : decode cX5_grudgeFor 85 = .ok (.iload_n 3, 1) := by decide +kernel
theorem dX5_grudgeFor_86 : decode cX5_grudgeFor 86 = .ok (.invokevirtual 139, 3) := by decide +kernel
theorem dX5_grudgeFor_89 : decode cX5_grudgeFor 89 = .ok (.ireturn, 1) := by decide +kernel
theorem dX5_kindFor_0 : decode cX5_kindFor 0 = .ok (.aload_n 0, 1) := by decide +kernel
theorem dX5_kindFor_1 : decode cX5_kindFor 1 = .ok (.iload_n 1, 1) := by decide +kernel
theorem dX5_kindFor_2 : decode cX5_kindFor 2 = .ok (.invokevirtual 68, 3) := by decide +kernel
theorem dX5_kindFor_5 : decode cX5_kindFor 5 = .ok (.ifCond .eq 13, 3) := by decide +kernel
theorem dX5_kindFor_8 : decode cX5_kindFor 8 = .ok (.iload_n 2, 1) := by decide +kernel
theorem dX5_kindFor_9 : decode cX5_kindFor 9 = .ok (.iconst 0, 1) := by decide +kernel
theorem dX5_kindFor_10 : decode cX5_kindFor 10 = .ok (.bipush 60, 2) := by decide +kernel
theorem dX5_kindFor_12 : decode cX5_kindFor 12 = .ok (.invokestatic 40, 3) := by decide +kernel
theorem dX5_kindFor_15 : decode cX5_kindFor 15 = .ok (.ifCond .ne 10, 3) := by decide +kernel
theorem dX5_kindFor_18 : decode cX5_kindFor 18 = .ok (.aload_n 0, 1) := by decide +kernel
theorem dX5_kindFor_19 : decode cX5_kindFor 19 = .ok (.ldc 34, 2) := by decide +kernel
theorem dX5_kindFor_21 : decode cX5_kindFor 21 = .ok (.invokevirtual 36, 3) := by decide +kernel
theorem dX5_kindFor_24 : decode cX5_kindFor 24 = .ok (.ireturn, 1) := by decide +kernel
theorem dX5_kindFor_25 : decode cX5_kindFor 25 = .ok (.aload_n 0, 1) := by decide +kernel
theorem dX5_kindFor_26 : decode cX5_kindFor 26 = .ok (.invokevirtual 133, 3) := by decide +kernel
theorem dX5_kindFor_29 : decode cX5_kindFor 29 = .ok (.iconst 0, 1) := by decide +kernel
theorem dX5_kindFor_30 : decode cX5_kindFor 30 = .ok (.istore_n 3, 1) := by decide +kernel
theorem dX5_kindFor_31 : decode cX5_kindFor 31 = .ok (.iconst (-1), 1) := by decide +kernel
theorem dX5_kindFor_32 : decode cX5_kindFor 32 = .ok (.istore 4, 2) := by decide +kernel
theorem dX5_kindFor_34 : decode cX5_kindFor 34 = .ok (.iconst 0, 1) := by decide +kernel
theorem dX5_kindFor_35 : decode cX5_kindFor 35 = .ok (.istore 5, 2) := by decide +kernel
theorem dX5_kindFor_37 : decode cX5_kindFor 37 = .ok (.iload 5, 2) := by decide +kernel
theorem dX5_kindFor_39 : decode cX5_kindFor 39 = .ok (.bipush 6, 2) := by decide +kernel
theorem dX5_kindFor_41 : decode cX5_kindFor 41 = .ok (.if_icmp .gt 63, 3) := by decide +kernel
theorem dX5_kindFor_44 : decode cX5_kindFor 44 = .ok (.aload_n 0, 1) := by decide +kernel
theorem dX5_kindFor_45 : decode cX5_kindFor 45 = .ok (.iload_n 1, 1) := by decide +kernel
theorem dX5_kindFor_46 : decode cX5_kindFor 46 = .ok (.iconst 0, 1) := by decide +kernel
theorem dX5_kindFor_47 : decode cX5_kindFor 47 = .ok (.iload 5, 2) := by decide +kernel
theorem dX5_kindFor_49 : decode cX5_kindFor 49 = .ok (.invokevirtual 59, 3) := by decide +kernel
theorem dX5_kindFor_52 : decode cX5_kindFor 52 = .ok (.aload_n 0, 1) := by decide +kernel
theorem dX5_kindFor_53 : decode cX5_kindFor 53 = .ok (.iload_n 2, 1) := by decide +kernel
theorem dX5_kindFor_54 : decode cX5_kindFor 54 = .ok (.invokevirtual 114, 3) := by decide +kernel
theorem dX5_kindFor_57 : decode cX5_kindFor 57 = .ok (.aload_n 0, 1) := by decide +kernel
theorem dX5_kindFor_58 : decode cX5_kindFor 58 = .ok (.iload_n 1, 1) := by decide +kernel
theorem dX5_kindFor_59 : decode cX5_kindFor 59 = .ok (.invokevirtual 83, 3) := by decide +kernel
theorem dX5_kindFor_62 : decode cX5_kindFor 62 = .ok (.istore 6, 2) := by decide +kernel
theorem dX5_kindFor_64 : decode cX5_kindFor 64 = .ok (.aload_n 0, 1) := by decide +kernel
theorem dX5_kindFor_65 : decode cX5_kindFor 65 = .ok (.invokevirtual 136, 3) := by decide +kernel
theorem dX5_kindFor_68 : decode cX5_kindFor 68 = .ok (.iload 6, 2) := by decide +kernel
theorem dX5_kindFor_70 : decode cX5_kindFor 70 = .ok (.iload 4, 2) := by decide +kernel
theorem dX5_kindFor_72 : decode cX5_kindFor 72 = .ok (.if_icmp .le 8, 3) := by decide +kernel
theorem dX5_kindFor_75 : decode cX5_kindFor 75 = .ok (.iload 5, 2) := by decide +kernel
theorem dX5_kindFor_77 : decode cX5_kindFor 77 = .ok (.goto 4, 3) := by decide +kernel
theorem dX5_kindFor_80 : decode cX5_kindFor 80 = .ok (.iload_n 3, 1) := by decide +kernel
theorem dX5_kindFor_81 : decode cX5_kindFor 81 = .ok (.istore_n 3, 1) := by decide +kernel
theorem dX5_kindFor_82 : decode cX5_kindFor 82 = .ok (.iload 6, 2) := by decide +kernel
theorem dX5_kindFor_84 : decode cX5_kindFor 84 = .ok (.iload 4, 2) := by decide +kernel
theorem dX5_kindFor_86 : decode cX5_kindFor 86 = .ok (.if_icmp .le 8, 3) := by decide +kernel
theorem dX5_kindFor_89 : decode cX5_kindFor 89 = .ok (.iload 6, 2) := by decide +kernel
theorem dX5_kindFor_91 : decode cX5_kindFor 91 = .ok (.goto 5, 3) := by decide +kernel
theorem dX5_kindFor_94 : decode cX5_kindFor 94 = .ok (.iload 4, 2) := by decide +kernel
theorem dX5_kindFor_96 : decode cX5_kindFor 96 = .ok (.istore 4, 2) := by decide +kernel
theorem dX5_kindFor_98 : decode cX5_kindFor 98 = .ok (.iinc 5 1, 3) := by decide +kernel
theorem dX5_kindFor_101 : decode cX5_kindFor 101 = .ok (.goto (-64), 3) := by decide +kernel
theorem dX5_kindFor_104 : decode cX5_kindFor 104 = .ok (.iload_n 3, 1) := by decide +kernel
theorem dX5_kindFor_105 : decode cX5_kindFor 105 = .ok (.ireturn, 1) := by decide +kernel
theorem dX5_best_0 : decode cX5_best 0 = .ok (.aload_n 0, 1) := by decide +kernel
theorem dX5_best_1 : decode cX5_best 1 = .ok (.iload_n 1, 1) := by decide +kernel
theorem dX5_best_2 : decode cX5_best 2 = .ok (.invokevirtual 68, 3) := by decide +kernel
theorem dX5_best_5 : decode cX5_best 5 = .ok (.ifCond .ne 10, 3) := by decide +kernel
theorem dX5_best_8 : decode cX5_best 8 = .ok (.aload_n 0, 1) := by decide +kernel
theorem dX5_best_9 : decode cX5_best 9 = .ok (.ldc 34, 2) := by decide +kernel
theorem dX5_best_11 : decode cX5_best 11 = .ok (.invokevirtual 36, 3) := by decide +kernel
theorem dX5_best_14 : decode cX5_best 14 = .ok (.ireturn, 1) := by decide +kernel
theorem dX5_best_15 : decode cX5_best 15 = .ok (.aload_n 0, 1) := by decide +kernel
theorem dX5_best_16 : decode cX5_best 16 = .ok (.invokevirtual 133, 3) := by decide +kernel
theorem dX5_best_19 : decode cX5_best 19 = .ok (.iconst 0, 1) := by decide +kernel
theorem dX5_best_20 : decode cX5_best 20 = .ok (.istore_n 2, 1) := by decide +kernel
theorem dX5_best_21 : decode cX5_best 21 = .ok (.iconst (-1), 1) := by decide +kernel
theorem dX5_best_22 : decode cX5_best 22 = .ok (.istore_n 3, 1) := by decide +kernel
theorem dX5_best_23 : decode cX5_best 23 = .ok (.iconst 0, 1) := by decide +kernel
theorem dX5_best_24 : decode cX5_best 24 = .ok (.istore 4, 2) := by decide +kernel
theorem dX5_best_26 : decode cX5_best 26 = .ok (.iload 4, 2) := by decide +kernel
theorem dX5_best_28 : decode cX5_best 28 = .ok (.bipush 60, 2) := by decide +kernel
theorem dX5_best_30 : decode cX5_best 30 = .ok (.if_icmp .gt 46, 3) := by decide +kernel
theorem dX5_best_33 : decode cX5_best 33 = .ok (.aload_n 0, 1) := by decide +kernel
theorem dX5_best_34 : decode cX5_best 34 = .ok (.iload_n 1, 1) := by decide +kernel
theorem dX5_best_35 : decode cX5_best 35 = .ok (.invokevirtual 83, 3) := by decide +kernel
theorem dX5_best_38 : decode cX5_best 38 = .ok (.istore 5, 2) := by decide +kernel
theorem dX5_best_40 : decode cX5_best 40 = .ok (.iload 5, 2) := by decide +kernel
theorem dX5_best_42 : decode cX5_best 42 = .ok (.iload_n 3, 1) := by decide +kernel
theorem dX5_best_43 : decode cX5_best 43 = .ok (.if_icmp .le 8, 3) := by decide +kernel
theorem dX5_best_46 : decode cX5_best 46 = .ok (.iload 4, 2) := by decide +kernel
theorem dX5_best_48 : decode cX5_best 48 = .ok (.goto 4, 3) := by decide +kernel
theorem dX5_best_51 : decode cX5_best 51 = .ok (.iload_n 2, 1) := by decide +kernel
theorem dX5_best_52 : decode cX5_best 52 = .ok (.istore_n 2, 1) := by decide +kernel
theorem dX5_best_53 : decode cX5_best 53 = .ok (.iload 5, 2) := by decide +kernel
theorem dX5_best_55 : decode cX5_best 55 = .ok (.iload_n 3, 1) := by decide +kernel
theorem dX5_best_56 : decode cX5_best 56 = .ok (.if_icmp .le 8, 3) := by decide +kernel
theorem dX5_best_59 : decode cX5_best 59 = .ok (.iload 5, 2) := by decide +kernel
theorem dX5_best_61 : decode cX5_best 61 = .ok (.goto 4, 3) := by decide +kernel
theorem dX5_best_64 : decode cX5_best 64 = .ok (.iload_n 3, 1) := by decide +kernel
theorem dX5_best_65 : decode cX5_best 65 = .ok (.istore_n 3, 1) := by decide +kernel
theorem dX5_best_66 : decode cX5_best 66 = .ok (.aload_n 0, 1) := by decide +kernel
theorem dX5_best_67 : decode cX5_best 67 = .ok (.invokevirtual 111, 3) := by decide +kernel
theorem dX5_best_70 : decode cX5_best 70 = .ok (.iinc 4 1, 3) := by decide +kernel
theorem dX5_best_73 : decode cX5_best 73 = .ok (.goto (-47), 3) := by decide +kernel
theorem dX5_best_76 : decode cX5_best 76 = .ok (.aload_n 0, 1) := by decide +kernel
theorem dX5_best_77 : decode cX5_best 77 = .ok (.invokevirtual 136, 3) := by decide +kernel
theorem dX5_best_80 : decode cX5_best 80 = .ok (.iload_n 2, 1) := by decide +kernel
theorem dX5_best_81 : decode cX5_best 81 = .ok (.ireturn, 1) := by decide +kernel
theorem dX5_isSafe_0 : decode cX5_isSafe 0 = .ok (.aload_n 0, 1) := by decide +kernel
theorem dX5_isSafe_1 : decode cX5_isSafe 1 = .ok (.iconst 3, 1) := by decide +kernel
theorem dX5_isSafe_2 : decode cX5_isSafe 2 = .ok (.invokevirtual 117, 3) := by decide +kernel
theorem dX5_isSafe_5 : decode cX5_isSafe 5 = .ok (.invokestatic 142, 3) := by decide +kernel
theorem dX5_isSafe_8 : decode cX5_isSafe 8 = .ok (.istore_n 3, 1) := by decide +kernel
theorem dX5_isSafe_9 : decode cX5_isSafe 9 = .ok (.iconst 0, 1) := by decide +kernel
theorem dX5_isSafe_10 : decode cX5_isSafe 10 = .ok (.istore 4, 2) := by decide +kernel
theorem dX5_isSafe_12 : decode cX5_isSafe 12 = .ok (.iload 4, 2) := by decide +kernel
theorem dX5_isSafe_14 : decode cX5_isSafe 14 = .ok (.aload_n 0, 1) := by decide +kernel
theorem dX5_isSafe_15 : decode cX5_isSafe 15 = .ok (.getfield 9, 3) := by decide +kernel
theorem dX5_isSafe_18 : decode cX5_isSafe 18 = .ok (.iconst 5, 1) := by decide +kernel
theorem dX5_isSafe_19 : decode cX5_isSafe 19 = .ok (.iaload, 1) := by decide +kernel
theorem dX5_isSafe_20 : decode cX5_isSafe 20 = .ok (.if_icmp .ge 30, 3) := by decide +kernel
theorem dX5_isSafe_23 : decode cX5_isSafe 23 = .ok (.aload_n 0, 1) := by decide +kernel
theorem dX5_isSafe_24 : decode cX5_isSafe 24 = .ok (.iload 4, 2) := by decide +kernel
theorem dX5_isSafe_26 : decode cX5_isSafe 26 = .ok (.iconst 4, 1) := by decide +kernel
theorem dX5_isSafe_27 : decode cX5_isSafe 27 = .ok (.aload_n 0, 1) := by decide +kernel
theorem dX5_isSafe_28 : decode cX5_isSafe 28 = .ok (.iload 4, 2) := by decide +kernel
theorem dX5_isSafe_30 : decode cX5_isSafe 30 = .ok (.iconst 4, 1) := by decide +kernel
theorem dX5_isSafe_31 : decode cX5_isSafe 31 = .ok (.invokevirtual 44, 3) := by decide +kernel
theorem dX5_isSafe_34 : decode cX5_isSafe 34 = .ok (.iload_n 1, 1) := by decide +kernel
theorem dX5_isSafe_35 : decode cX5_isSafe 35 = .ok (.iload 4, 2) := by decide +kernel
theorem dX5_isSafe_37 : decode cX5_isSafe 37 = .ok (.ishr, 1) := by decide +kernel
theorem dX5_isSafe_38 : decode cX5_isSafe 38 = .ok (.iconst 1, 1) := by decide +kernel
theorem dX5_isSafe_39 : decode cX5_isSafe 39 = .ok (.iand, 1) := by decide +kernel
theorem dX5_isSafe_40 : decode cX5_isSafe 40 = .ok (.ior, 1) := by decide +kernel
theorem dX5_isSafe_41 : decode cX5_isSafe 41 = .ok (.invokevirtual 59, 3) := by decide +kernel
theorem dX5_isSafe_44 : decode cX5_isSafe 44 = .ok (.iinc 4 1, 3) := by decide +kernel
theorem dX5_isSafe_47 : decode cX5_isSafe 47 = .ok (.goto (-35), 3) := by decide +kernel
theorem dX5_isSafe_50 : decode cX5_isSafe 50 = .ok (.aload_n 0, 1) := by decide +kernel
theorem dX5_isSafe_51 : decode cX5_isSafe 51 = .ok (.iload_n 2, 1) := by decide +kernel
theorem dX5_isSafe_52 : decode cX5_isSafe 52 = .ok (.invokevirtual 114, 3) := by decide +kernel
theorem dX5_isSafe_55 : decode cX5_isSafe 55 = .ok (.aload_n 0, 1) := by decide +kernel
theorem dX5_isSafe_56 : decode cX5_isSafe 56 = .ok (.iconst 3, 1) := by decide +kernel
theorem dX5_isSafe_57 : decode cX5_isSafe 57 = .ok (.invokevirtual 117, 3) := by decide +kernel
theorem dX5_isSafe_60 : decode cX5_isSafe 60 = .ok (.invokestatic 142, 3) := by decide +kernel
theorem dX5_isSafe_63 : decode cX5_isSafe 63 = .ok (.iload_n 3, 1) := by decide +kernel
theorem dX5_isSafe_64 : decode cX5_isSafe 64 = .ok (.if_icmp .gt 7, 3) := by decide +kernel
theorem dX5_isSafe_67 : decode cX5_isSafe 67 = .ok (.iconst 1, 1) := by decide +kernel
theorem dX5_isSafe_68 : decode cX5_isSafe 68 = .ok (.goto 4, 3) := by decide +kernel
theorem dX5_isSafe_71 : decode cX5_isSafe 71 = .ok (.iconst 0, 1) := by decide +kernel
theorem dX5_isSafe_72 : decode cX5_isSafe 72 = .ok (.istore 4, 2) := by decide +kernel
theorem dX5_isSafe_74 : decode cX5_isSafe 74 = .ok (.aload_n 0, 1) := by decide +kernel
theorem dX5_isSafe_75 : decode cX5_isSafe 75 = .ok (.invokevirtual 136, 3) := by decide +kernel
theorem dX5_isSafe_78 : decode cX5_isSafe 78 = .ok (.iload 4, 2) := by decide +kernel
theorem dX5_isSafe_80 : decode cX5_isSafe 80 = .ok (.ireturn, 1) := by decide +kernel
theorem dX5_takeOff_0 : decode cX5_takeOff 0 = .ok (.iload_n 1, 1) := by decide +kernel
theorem dX5_takeOff_1 : decode cX5_takeOff 1 = .ok (.iconst 0, 1) := by decide +kernel
theorem dX5_takeOff_2 : decode cX5_takeOff 2 = .ok (.bipush 20, 2) := by decide +kernel
theorem dX5_takeOff_4 : decode cX5_takeOff 4 = .ok (.invokestatic 40, 3) := by decide +kernel
theorem dX5_takeOff_7 : decode cX5_takeOff 7 = .ok (.ifCond .ne 10, 3) := by decide +kernel
theorem dX5_takeOff_10 : decode cX5_takeOff 10 = .ok (.aload_n 0, 1) := by decide +kernel
theorem dX5_takeOff_11 : decode cX5_takeOff 11 = .ok (.ldc 34, 2) := by decide +kernel
theorem dX5_takeOff_13 : decode cX5_takeOff 13 = .ok (.invokevirtual 36, 3) := by decide +kernel
theorem dX5_takeOff_16 : decode cX5_takeOff 16 = .ok (.ireturn, 1) := by decide +kernel
theorem dX5_takeOff_17 : decode cX5_takeOff 17 = .ok (.aload_n 0, 1) := by decide +kernel
theorem dX5_takeOff_18 : decode cX5_takeOff 18 = .ok (.invokevirtual 133, 3) := by decide +kernel
theorem dX5_takeOff_21 : decode cX5_takeOff 21 = .ok (.iconst (-1), 1) := by decide +kernel
theorem dX5_takeOff_22 : decode cX5_takeOff 22 = .ok (.istore_n 2, 1) := by decide +kernel
theorem dX5_takeOff_23 : decode cX5_takeOff 23 = .ok (.iconst 0, 1) := by decide +kernel
theorem dX5_takeOff_24 : decode cX5_takeOff 24 = .ok (.istore_n 3, 1) := by decide +kernel
theorem dX5_takeOff_25 : decode cX5_takeOff 25 = .ok (.iload_n 3, 1) := by decide +kernel
theorem dX5_takeOff_26 : decode cX5_takeOff 26 = .ok (.iconst 1, 1) := by decide +kernel
theorem dX5_takeOff_27 : decode cX5_takeOff 27 = .ok (.aload_n 0, 1) := by decide +kernel
theorem dX5_takeOff_28 : decode cX5_takeOff 28 = .ok (.getfield 9, 3) := by decide +kernel
theorem dX5_takeOff_31 : decode cX5_takeOff 31 = .ok (.iconst 5, 1) := by decide +kernel
theorem dX5_takeOff_32 : decode cX5_takeOff 32 = .ok (.iaload, 1) := by decide +kernel
theorem dX5_takeOff_33 : decode cX5_takeOff 33 = .ok (.ishl, 1) := by decide +kernel
theorem dX5_takeOff_34 : decode cX5_takeOff 34 = .ok (.if_icmp .ge 51, 3) := by decide +kernel
theorem dX5_takeOff_37 : decode cX5_takeOff 37 = .ok (.iload_n 2, 1) := by decide +kernel
theorem dX5_takeOff_38 : decode cX5_takeOff 38 = .ok (.ifCond .lt 14, 3) := by decide +kernel
theorem dX5_takeOff_41 : decode cX5_takeOff 41 = .ok (.iload_n 3, 1) := by decide +kernel
theorem dX5_takeOff_42 : decode cX5_takeOff 42 = .ok (.invokestatic 142, 3) := by decide +kernel
theorem dX5_takeOff_45 : decode cX5_takeOff 45 = .ok (.iload_n 2, 1) := by decide +kernel
theorem dX5_takeOff_46 : decode cX5_takeOff 46 = .ok (.invokestatic 142, 3) := by decide +kernel
theorem dX5_takeOff_49 : decode cX5_takeOff 49 = .ok (.if_icmp .ge 7, 3) := by decide +kernel
theorem dX5_takeOff_52 : decode cX5_takeOff 52 = .ok (.iconst 1, 1) := by decide +kernel
theorem dX5_takeOff_53 : decode cX5_takeOff 53 = .ok (.goto 4, 3) := by decide +kernel
theorem dX5_takeOff_56 : decode cX5_takeOff 56 = .ok (.iconst 0, 1) := by decide +kernel
theorem dX5_takeOff_57 : decode cX5_takeOff 57 = .ok (.istore 4, 2) := by decide +kernel
theorem dX5_takeOff_59 : decode cX5_takeOff 59 = .ok (.iload 4, 2) := by decide +kernel
theorem dX5_takeOff_61 : decode cX5_takeOff 61 = .ok (.ifCond .eq 16, 3) := by decide +kernel
theorem dX5_takeOff_64 : decode cX5_takeOff 64 = .ok (.aload_n 0, 1) := by decide +kernel
theorem dX5_takeOff_65 : decode cX5_takeOff 65 = .ok (.iload_n 3, 1) := by decide +kernel
theorem dX5_takeOff_66 : decode cX5_takeOff 66 = .ok (.iload_n 1, 1) := by decide +kernel
theorem dX5_takeOff_67 : decode cX5_takeOff 67 = .ok (.invokevirtual 145, 3) := by decide +kernel
theorem dX5_takeOff_70 : decode cX5_takeOff 70 = .ok (.ifCond .eq 7, 3) := by decide +kernel
theorem dX5_takeOff_73 : decode cX5_takeOff 73 = .ok (.iload_n 3, 1) := by decide +kernel
theorem dX5_takeOff_74 : decode cX5_takeOff 74 = .ok (.goto 4, 3) := by decide +kernel
theorem dX5_takeOff_77 : decode cX5_takeOff 77 = .ok (.iload_n 2, 1) := by decide +kernel
theorem dX5_takeOff_78 : decode cX5_takeOff 78 = .ok (.istore_n 2, 1) := by decide +kernel
theorem dX5_takeOff_79 : decode cX5_takeOff 79 = .ok (.iinc 3 1, 3) := by decide +kernel
theorem dX5_takeOff_82 : decode cX5_takeOff 82 = .ok (.goto (-57), 3) := by decide +kernel
theorem dX5_takeOff_85 : decode cX5_takeOff 85 = .ok (.aload_n 0, 1) := by decide +kernel
theorem dX5_takeOff_86 : decode cX5_takeOff 86 = .ok (.iload_n 2, 1) := by decide +kernel
theorem dX5_takeOff_87 : decode cX5_takeOff 87 = .ok (.invokevirtual 139, 3) := by decide +kernel
theorem dX5_takeOff_90 : decode cX5_takeOff 90 = .ok (.ireturn, 1) := by decide +kernel
theorem dX5_isSheet_0 : decode cX5_isSheet 0 = .ok (.iload_n 0, 1) := by decide +kernel
theorem dX5_isSheet_1 : decode cX5_isSheet 1 = .ok (.iconst 0, 1) := by decide +kernel
theorem dX5_isSheet_2 : decode cX5_isSheet 2 = .ok (.iconst 3, 1) := by decide +kernel
theorem dX5_isSheet_3 : decode cX5_isSheet 3 = .ok (.invokestatic 40, 3) := by decide +kernel
theorem dX5_isSheet_6 : decode cX5_isSheet 6 = .ok (.ireturn, 1) := by decide +kernel
theorem dX5_notThere_0 : decode cX5_notThere 0 = .ok (.iload_n 1, 1) := by decide +kernel
theorem dX5_notThere_1 : decode cX5_notThere 1 = .ok (.invokestatic 149, 3) := by decide +kernel
theorem dX5_notThere_4 : decode cX5_notThere 4 = .ok (.ifCond .ne 8, 3) := by decide +kernel
theorem dX5_notThere_7 : decode cX5_notThere 7 = .ok (.ldc 34, 2) := by decide +kernel
theorem dX5_notThere_9 : decode cX5_notThere 9 = .ok (.goto 18, 3) := by decide +kernel
theorem dX5_notThere_12 : decode cX5_notThere 12 = .ok (.aload_n 0, 1) := by decide +kernel
theorem dX5_notThere_13 : decode cX5_notThere 13 = .ok (.getfield 22, 3) := by decide +kernel
theorem dX5_notThere_16 : decode cX5_notThere 16 = .ok (.iload_n 1, 1) := by decide +kernel
theorem dX5_notThere_17 : decode cX5_notThere 17 = .ok (.iaload, 1) := by decide +kernel
theorem dX5_notThere_18 : decode cX5_notThere 18 = .ok (.ifCond .ne 8, 3) := by decide +kernel
theorem dX5_notThere_21 : decode cX5_notThere 21 = .ok (.ldc 152, 2) := by decide +kernel
theorem dX5_notThere_23 : decode cX5_notThere 23 = .ok (.goto 4, 3) := by decide +kernel
theorem dX5_notThere_26 : decode cX5_notThere 26 = .ok (.iconst 0, 1) := by decide +kernel
theorem dX5_notThere_27 : decode cX5_notThere 27 = .ok (.ireturn, 1) := by decide +kernel
theorem dX5_notAsked_0 : decode cX5_notAsked 0 = .ok (.aload_n 0, 1) := by decide +kernel
theorem dX5_notAsked_1 : decode cX5_notAsked 1 = .ok (.iload_n 1, 1) := by decide +kernel
theorem dX5_notAsked_2 : decode cX5_notAsked 2 = .ok (.invokevirtual 153, 3) := by decide +kernel
theorem dX5_notAsked_5 : decode cX5_notAsked 5 = .ok (.istore_n 3, 1) := by decide +kernel
theorem dX5_notAsked_6 : decode cX5_notAsked 6 = .ok (.iload_n 3, 1) := by decide +kernel
theorem dX5_notAsked_7 : decode cX5_notAsked 7 = .ok (.ifCond .ne 16, 3) := by decide +kernel
theorem dX5_notAsked_10 : decode cX5_notAsked 10 = .ok (.aload_n 0, 1) := by decide +kernel
theorem dX5_notAsked_11 : decode cX5_notAsked 11 = .ok (.iload_n 2, 1) := by decide +kernel
theorem dX5_notAsked_12 : decode cX5_notAsked 12 = .ok (.invokevirtual 68, 3) := by decide +kernel
theorem dX5_notAsked_15 : decode cX5_notAsked 15 = .ok (.ifCond .ne 8, 3) := by decide +kernel
theorem dX5_notAsked_18 : decode cX5_notAsked 18 = .ok (.ldc 34, 2) := by decide +kernel
theorem dX5_notAsked_20 : decode cX5_notAsked 20 = .ok (.goto 4, 3) := by decide +kernel
theorem dX5_notAsked_23 : decode cX5_notAsked 23 = .ok (.iload_n 3, 1) := by decide +kernel
theorem dX5_notAsked_24 : decode cX5_notAsked 24 = .ok (.ireturn, 1) := by decide +kernel
theorem dX5_isTold_0 : decode cX5_isTold 0 = .ok (.iconst 1, 1) := by decide +kernel
theorem dX5_isTold_1 : decode cX5_isTold 1 = .ok (.istore_n 3, 1) := by decide +kernel
theorem dX5_isTold_2 : decode cX5_isTold 2 = .ok (.iconst 0, 1) := by decide +kernel
theorem dX5_isTold_3 : decode cX5_isTold 3 = .ok (.istore 4, 2) := by decide +kernel
theorem dX5_isTold_5 : decode cX5_isTold 5 = .ok (.iload 4, 2) := by decide +kernel
theorem dX5_isTold_7 : decode cX5_isTold 7 = .ok (.aload_n 0, 1) := by decide +kernel
theorem dX5_isTold_8 : decode cX5_isTold 8 = .ok (.getfield 25, 3) := by decide +kernel
theorem dX5_isTold_11 : decode cX5_isTold 11 = .ok (.iload_n 1, 1) := by decide +kernel
theorem dX5_isTold_12 : decode cX5_isTold 12 = .ok (.iaload, 1) := by decide +kernel
theorem dX5_isTold_13 : decode cX5_isTold 13 = .ok (.if_icmp .ge 54, 3) := by decide +kernel
theorem dX5_isTold_16 : decode cX5_isTold 16 = .ok (.iload_n 3, 1) := by decide +kernel
theorem dX5_isTold_17 : decode cX5_isTold 17 = .ok (.ifCond .eq 50, 3) := by decide +kernel
theorem dX5_isTold_20 : decode cX5_isTold 20 = .ok (.aload_n 0, 1) := by decide +kernel
theorem dX5_isTold_21 : decode cX5_isTold 21 = .ok (.getfield 28, 3) := by decide +kernel
theorem dX5_isTold_24 : decode cX5_isTold 24 = .ok (.bipush 40, 2) := by decide +kernel
theorem dX5_isTold_26 : decode cX5_isTold 26 = .ok (.iload_n 1, 1) := by decide +kernel
theorem dX5_isTold_27 : decode cX5_isTold 27 = .ok (.imul, 1) := by decide +kernel
theorem dX5_isTold_28 : decode cX5_isTold 28 = .ok (.iload 4, 2) := by decide +kernel
theorem dX5_isTold_30 : decode cX5_isTold 30 = .ok (.iadd, 1) := by decide +kernel
theorem dX5_isTold_31 : decode cX5_isTold 31 = .ok (.iaload, 1) := by decide +kernel
theorem dX5_isTold_32 : decode cX5_isTold 32 = .ok (.istore 5, 2) := by decide +kernel
theorem dX5_isTold_34 : decode cX5_isTold 34 = .ok (.iload 5, 2) := by decide +kernel
theorem dX5_isTold_36 : decode cX5_isTold 36 = .ok (.iconst (-1), 1) := by decide +kernel
theorem dX5_isTold_37 : decode cX5_isTold 37 = .ok (.if_icmp .eq 14, 3) := by decide +kernel
theorem dX5_isTold_40 : decode cX5_isTold 40 = .ok (.iload 5, 2) := by decide +kernel
theorem dX5_isTold_42 : decode cX5_isTold 42 = .ok (.aload_n 0, 1) := by decide +kernel
theorem dX5_isTold_43 : decode cX5_isTold 43 = .ok (.iload_n 2, 1) := by decide +kernel
theorem dX5_isTold_44 : decode cX5_isTold 44 = .ok (.iconst 1, 1) := by decide +kernel
theorem dX5_isTold_45 : decode cX5_isTold 45 = .ok (.invokevirtual 44, 3) := by decide +kernel
theorem dX5_isTold_48 : decode cX5_isTold 48 = .ok (.if_icmp .ne 7, 3) := by decide +kernel
theorem dX5_isTold_51 : decode cX5_isTold 51 = .ok (.iconst 1, 1) := by decide +kernel
theorem dX5_isTold_52 : decode cX5_isTold 52 = .ok (.goto 4, 3) := by decide +kernel
theorem dX5_isTold_55 : decode cX5_isTold 55 = .ok (.iconst 0, 1) := by decide +kernel
theorem dX5_isTold_56 : decode cX5_isTold 56 = .ok (.istore_n 3, 1) := by decide +kernel
theorem dX5_isTold_57 : decode cX5_isTold 57 = .ok (.aload_n 0, 1) := by decide +kernel
theorem dX5_isTold_58 : decode cX5_isTold 58 = .ok (.invokevirtual 111, 3) := by decide +kernel
theorem dX5_isTold_61 : decode cX5_isTold 61 = .ok (.iinc 4 1, 3) := by decide +kernel
theorem dX5_isTold_64 : decode cX5_isTold 64 = .ok (.goto (-59), 3) := by decide +kernel
theorem dX5_isTold_67 : decode cX5_isTold 67 = .ok (.aload_n 0, 1) := by decide +kernel
theorem dX5_isTold_68 : decode cX5_isTold 68 = .ok (.invokevirtual 136, 3) := by decide +kernel
theorem dX5_isTold_71 : decode cX5_isTold 71 = .ok (.iload_n 3, 1) := by decide +kernel
theorem dX5_isTold_72 : decode cX5_isTold 72 = .ok (.ireturn, 1) := by decide +kernel
theorem dX5_fits_0 : decode cX5_fits 0 = .ok (.aload_n 0, 1) := by decide +kernel
theorem dX5_fits_1 : decode cX5_fits 1 = .ok (.iload_n 1, 1) := by decide +kernel
theorem dX5_fits_2 : decode cX5_fits 2 = .ok (.iload_n 2, 1) := by decide +kernel
theorem dX5_fits_3 : decode cX5_fits 3 = .ok (.invokevirtual 156, 3) := by decide +kernel
theorem dX5_fits_6 : decode cX5_fits 6 = .ok (.istore_n 3, 1) := by decide +kernel
theorem dX5_fits_7 : decode cX5_fits 7 = .ok (.iload_n 3, 1) := by decide +kernel
end
section
theorem dX5_fits_8 : decode cX5_fits 8 = .ok (.ifCond .eq 9, 3) := by decide +kernel
theorem dX5_fits_11 : decode cX5_fits 11 = .ok (.aload_n 0, 1) := by decide +kernel
theorem dX5_fits_12 : decode cX5_fits 12 = .ok (.iload_n 3, 1) := by decide +kernel
theorem dX5_fits_13 : decode cX5_fits 13 = .ok (.invokevirtual 36, 3) := by decide +kernel
theorem dX5_fits_16 : decode cX5_fits 16 = .ok (.ireturn, 1) := by decide +kernel
theorem dX5_fits_17 : decode cX5_fits 17 = .ok (.aload_n 0, 1) := by decide +kernel
theorem dX5_fits_18 : decode cX5_fits 18 = .ok (.invokevirtual 133, 3) := by decide +kernel
theorem dX5_fits_21 : decode cX5_fits 21 = .ok (.iconst 0, 1) := by decide +kernel
theorem dX5_fits_22 : decode cX5_fits 22 = .ok (.istore 4, 2) := by decide +kernel
theorem dX5_fits_24 : decode cX5_fits 24 = .ok (.iconst 0, 1) := by decide +kernel
theorem dX5_fits_25 : decode cX5_fits 25 = .ok (.istore 5, 2) := by decide +kernel
theorem dX5_fits_27 : decode cX5_fits 27 = .ok (.iload 5, 2) := by decide +kernel
theorem dX5_fits_29 : decode cX5_fits 29 = .ok (.bipush 99, 2) := by decide +kernel
theorem dX5_fits_31 : decode cX5_fits 31 = .ok (.if_icmp .gt 36, 3) := by decide +kernel
theorem dX5_fits_34 : decode cX5_fits 34 = .ok (.aload_n 0, 1) := by decide +kernel
theorem dX5_fits_35 : decode cX5_fits 35 = .ok (.getfield 9, 3) := by decide +kernel
theorem dX5_fits_38 : decode cX5_fits 38 = .ok (.iconst 1, 1) := by decide +kernel
theorem dX5_fits_39 : decode cX5_fits 39 = .ok (.iload 5, 2) := by decide +kernel
theorem dX5_fits_41 : decode cX5_fits 41 = .ok (.iastore, 1) := by decide +kernel
theorem dX5_fits_42 : decode cX5_fits 42 = .ok (.iload 4, 2) := by decide +kernel
theorem dX5_fits_44 : decode cX5_fits 44 = .ok (.aload_n 0, 1) := by decide +kernel
theorem dX5_fits_45 : decode cX5_fits 45 = .ok (.iload_n 1, 1) := by decide +kernel
theorem dX5_fits_46 : decode cX5_fits 46 = .ok (.iload_n 2, 1) := by decide +kernel
theorem dX5_fits_47 : decode cX5_fits 47 = .ok (.invokevirtual 159, 3) := by decide +kernel
theorem dX5_fits_50 : decode cX5_fits 50 = .ok (.ifCond .eq 7, 3) := by decide +kernel
theorem dX5_fits_53 : decode cX5_fits 53 = .ok (.iconst 1, 1) := by decide +kernel
theorem dX5_fits_54 : decode cX5_fits 54 = .ok (.goto 4, 3) := by decide +kernel
theorem dX5_fits_57 : decode cX5_fits 57 = .ok (.iconst 0, 1) := by decide +kernel
theorem dX5_fits_58 : decode cX5_fits 58 = .ok (.iadd, 1) := by decide +kernel
theorem dX5_fits_59 : decode cX5_fits 59 = .ok (.istore 4, 2) := by decide +kernel
theorem dX5_fits_61 : decode cX5_fits 61 = .ok (.iinc 5 1, 3) := by decide +kernel
theorem dX5_fits_64 : decode cX5_fits 64 = .ok (.goto (-37), 3) := by decide +kernel
theorem dX5_fits_67 : decode cX5_fits 67 = .ok (.iload 4, 2) := by decide +kernel
theorem dX5_fits_69 : decode cX5_fits 69 = .ok (.ireturn, 1) := by decide +kernel
theorem dX5_kinds_0 : decode cX5_kinds 0 = .ok (.aload_n 0, 1) := by decide +kernel
theorem dX5_kinds_1 : decode cX5_kinds 1 = .ok (.iload_n 1, 1) := by decide +kernel
theorem dX5_kinds_2 : decode cX5_kinds 2 = .ok (.iload_n 2, 1) := by decide +kernel
theorem dX5_kinds_3 : decode cX5_kinds 3 = .ok (.invokevirtual 156, 3) := by decide +kernel
theorem dX5_kinds_6 : decode cX5_kinds 6 = .ok (.istore_n 3, 1) := by decide +kernel
theorem dX5_kinds_7 : decode cX5_kinds 7 = .ok (.iload_n 3, 1) := by decide +kernel
theorem dX5_kinds_8 : decode cX5_kinds 8 = .ok (.ifCond .eq 9, 3) := by decide +kernel
theorem dX5_kinds_11 : decode cX5_kinds 11 = .ok (.aload_n 0, 1) := by decide +kernel
theorem dX5_kinds_12 : decode cX5_kinds 12 = .ok (.iload_n 3, 1) := by decide +kernel
theorem dX5_kinds_13 : decode cX5_kinds 13 = .ok (.invokevirtual 36, 3) := by decide +kernel
theorem dX5_kinds_16 : decode cX5_kinds 16 = .ok (.ireturn, 1) := by decide +kernel
theorem dX5_kinds_17 : decode cX5_kinds 17 = .ok (.aload_n 0, 1) := by decide +kernel
theorem dX5_kinds_18 : decode cX5_kinds 18 = .ok (.invokevirtual 133, 3) := by decide +kernel
theorem dX5_kinds_21 : decode cX5_kinds 21 = .ok (.iconst 0, 1) := by decide +kernel
theorem dX5_kinds_22 : decode cX5_kinds 22 = .ok (.istore 4, 2) := by decide +kernel
theorem dX5_kinds_24 : decode cX5_kinds 24 = .ok (.iconst 0, 1) := by decide +kernel
theorem dX5_kinds_25 : decode cX5_kinds 25 = .ok (.istore 5, 2) := by decide +kernel
theorem dX5_kinds_27 : decode cX5_kinds 27 = .ok (.iload 5, 2) := by decide +kernel
theorem dX5_kinds_29 : decode cX5_kinds 29 = .ok (.bipush 6, 2) := by decide +kernel
theorem dX5_kinds_31 : decode cX5_kinds 31 = .ok (.if_icmp .gt 39, 3) := by decide +kernel
theorem dX5_kinds_34 : decode cX5_kinds 34 = .ok (.aload_n 0, 1) := by decide +kernel
theorem dX5_kinds_35 : decode cX5_kinds 35 = .ok (.iload_n 2, 1) := by decide +kernel
theorem dX5_kinds_36 : decode cX5_kinds 36 = .ok (.iconst 0, 1) := by decide +kernel
theorem dX5_kinds_37 : decode cX5_kinds 37 = .ok (.iload 5, 2) := by decide +kernel
theorem dX5_kinds_39 : decode cX5_kinds 39 = .ok (.invokevirtual 59, 3) := by decide +kernel
theorem dX5_kinds_42 : decode cX5_kinds 42 = .ok (.iload 4, 2) := by decide +kernel
theorem dX5_kinds_44 : decode cX5_kinds 44 = .ok (.aload_n 0, 1) := by decide +kernel
theorem dX5_kinds_45 : decode cX5_kinds 45 = .ok (.iload_n 1, 1) := by decide +kernel
theorem dX5_kinds_46 : decode cX5_kinds 46 = .ok (.iload_n 2, 1) := by decide +kernel
theorem dX5_kinds_47 : decode cX5_kinds 47 = .ok (.invokevirtual 159, 3) := by decide +kernel
theorem dX5_kinds_50 : decode cX5_kinds 50 = .ok (.ifCond .eq 10, 3) := by decide +kernel
theorem dX5_kinds_53 : decode cX5_kinds 53 = .ok (.iconst 1, 1) := by decide +kernel
theorem dX5_kinds_54 : decode cX5_kinds 54 = .ok (.iload 5, 2) := by decide +kernel
theorem dX5_kinds_56 : decode cX5_kinds 56 = .ok (.ishl, 1) := by decide +kernel
theorem dX5_kinds_57 : decode cX5_kinds 57 = .ok (.goto 4, 3) := by decide +kernel
theorem dX5_kinds_60 : decode cX5_kinds 60 = .ok (.iconst 0, 1) := by decide +kernel
theorem dX5_kinds_61 : decode cX5_kinds 61 = .ok (.ior, 1) := by decide +kernel
theorem dX5_kinds_62 : decode cX5_kinds 62 = .ok (.istore 4, 2) := by decide +kernel
theorem dX5_kinds_64 : decode cX5_kinds 64 = .ok (.iinc 5 1, 3) := by decide +kernel
theorem dX5_kinds_67 : decode cX5_kinds 67 = .ok (.goto (-40), 3) := by decide +kernel
theorem dX5_kinds_70 : decode cX5_kinds 70 = .ok (.iload 4, 2) := by decide +kernel
theorem dX5_kinds_72 : decode cX5_kinds 72 = .ok (.ireturn, 1) := by decide +kernel
theorem dX5_draw_0 : decode cX5_draw 0 = .ok (.aload_n 0, 1) := by decide +kernel
theorem dX5_draw_1 : decode cX5_draw 1 = .ok (.getfield 9, 3) := by decide +kernel
theorem dX5_draw_4 : decode cX5_draw 4 = .ok (.iconst 4, 1) := by decide +kernel
theorem dX5_draw_5 : decode cX5_draw 5 = .ok (.aload_n 0, 1) := by decide +kernel
theorem dX5_draw_6 : decode cX5_draw 6 = .ok (.getfield 9, 3) := by decide +kernel
theorem dX5_draw_9 : decode cX5_draw 9 = .ok (.iconst 4, 1) := by decide +kernel
theorem dX5_draw_10 : decode cX5_draw 10 = .ok (.iaload, 1) := by decide +kernel
theorem dX5_draw_11 : decode cX5_draw 11 = .ok (.ldc 162, 2) := by decide +kernel
theorem dX5_draw_13 : decode cX5_draw 13 = .ok (.imul, 1) := by decide +kernel
theorem dX5_draw_14 : decode cX5_draw 14 = .ok (.sipush 12345, 3) := by decide +kernel
theorem dX5_draw_17 : decode cX5_draw 17 = .ok (.iadd, 1) := by decide +kernel
theorem dX5_draw_18 : decode cX5_draw 18 = .ok (.iastore, 1) := by decide +kernel
theorem dX5_draw_19 : decode cX5_draw 19 = .ok (.aload_n 0, 1) := by decide +kernel
theorem dX5_draw_20 : decode cX5_draw 20 = .ok (.getfield 9, 3) := by decide +kernel
theorem dX5_draw_23 : decode cX5_draw 23 = .ok (.iconst 4, 1) := by decide +kernel
theorem dX5_draw_24 : decode cX5_draw 24 = .ok (.iaload, 1) := by decide +kernel
theorem dX5_draw_25 : decode cX5_draw 25 = .ok (.bipush 8, 2) := by decide +kernel
theorem dX5_draw_27 : decode cX5_draw 27 = .ok (.iushr, 1) := by decide +kernel
theorem dX5_draw_28 : decode cX5_draw 28 = .ok (.ireturn, 1) := by decide +kernel
theorem dX5_service_0 : decode cX5_service 0 = .ok (.iload_n 1, 1) := by decide +kernel
theorem dX5_service_1 : decode cX5_service 1 = .ok (.iconst 1, 1) := by decide +kernel
theorem dX5_service_2 : decode cX5_service 2 = .ok (.bipush 20, 2) := by decide +kernel
theorem dX5_service_4 : decode cX5_service 4 = .ok (.invokestatic 40, 3) := by decide +kernel
theorem dX5_service_7 : decode cX5_service 7 = .ok (.ifCond .ne 10, 3) := by decide +kernel
theorem dX5_service_10 : decode cX5_service 10 = .ok (.aload_n 0, 1) := by decide +kernel
theorem dX5_service_11 : decode cX5_service 11 = .ok (.ldc 34, 2) := by decide +kernel
theorem dX5_service_13 : decode cX5_service 13 = .ok (.invokevirtual 36, 3) := by decide +kernel
theorem dX5_service_16 : decode cX5_service 16 = .ok (.ireturn, 1) := by decide +kernel
theorem dX5_service_17 : decode cX5_service 17 = .ok (.aload_n 0, 1) := by decide +kernel
theorem dX5_service_18 : decode cX5_service 18 = .ok (.getfield 9, 3) := by decide +kernel
theorem dX5_service_21 : decode cX5_service 21 = .ok (.iconst 0, 1) := by decide +kernel
theorem dX5_service_22 : decode cX5_service 22 = .ok (.iaload, 1) := by decide +kernel
theorem dX5_service_23 : decode cX5_service 23 = .ok (.iload_n 1, 1) := by decide +kernel
theorem dX5_service_24 : decode cX5_service 24 = .ok (.iadd, 1) := by decide +kernel
theorem dX5_service_25 : decode cX5_service 25 = .ok (.ldc 89, 2) := by decide +kernel
theorem dX5_service_27 : decode cX5_service 27 = .ok (.if_icmp .le 10, 3) := by decide +kernel
theorem dX5_service_30 : decode cX5_service 30 = .ok (.aload_n 0, 1) := by decide +kernel
theorem dX5_service_31 : decode cX5_service 31 = .ok (.ldc 94, 2) := by decide +kernel
theorem dX5_service_33 : decode cX5_service 33 = .ok (.invokevirtual 36, 3) := by decide +kernel
theorem dX5_service_36 : decode cX5_service 36 = .ok (.ireturn, 1) := by decide +kernel
theorem dX5_service_37 : decode cX5_service 37 = .ok (.iconst 0, 1) := by decide +kernel
theorem dX5_service_38 : decode cX5_service 38 = .ok (.istore_n 2, 1) := by decide +kernel
theorem dX5_service_39 : decode cX5_service 39 = .ok (.iload_n 2, 1) := by decide +kernel
theorem dX5_service_40 : decode cX5_service 40 = .ok (.iload_n 1, 1) := by decide +kernel
theorem dX5_service_41 : decode cX5_service 41 = .ok (.if_icmp .ge 73, 3) := by decide +kernel
theorem dX5_service_44 : decode cX5_service 44 = .ok (.aload_n 0, 1) := by decide +kernel
theorem dX5_service_45 : decode cX5_service 45 = .ok (.getfield 9, 3) := by decide +kernel
theorem dX5_service_48 : decode cX5_service 48 = .ok (.bipush 6, 2) := by decide +kernel
theorem dX5_service_50 : decode cX5_service 50 = .ok (.aload_n 0, 1) := by decide +kernel
theorem dX5_service_51 : decode cX5_service 51 = .ok (.getfield 9, 3) := by decide +kernel
theorem dX5_service_54 : decode cX5_service 54 = .ok (.iconst 0, 1) := by decide +kernel
theorem dX5_service_55 : decode cX5_service 55 = .ok (.iaload, 1) := by decide +kernel
theorem dX5_service_56 : decode cX5_service 56 = .ok (.bipush 6, 2) := by decide +kernel
theorem dX5_service_58 : decode cX5_service 58 = .ok (.irem, 1) := by decide +kernel
theorem dX5_service_59 : decode cX5_service 59 = .ok (.iadd, 1) := by decide +kernel
theorem dX5_service_60 : decode cX5_service 60 = .ok (.aload_n 0, 1) := by decide +kernel
theorem dX5_service_61 : decode cX5_service 61 = .ok (.invokevirtual 163, 3) := by decide +kernel
theorem dX5_service_64 : decode cX5_service 64 = .ok (.bipush 12, 2) := by decide +kernel
theorem dX5_service_66 : decode cX5_service 66 = .ok (.irem, 1) := by decide +kernel
theorem dX5_service_67 : decode cX5_service 67 = .ok (.iastore, 1) := by decide +kernel
theorem dX5_service_68 : decode cX5_service 68 = .ok (.aload_n 0, 1) := by decide +kernel
theorem dX5_service_69 : decode cX5_service 69 = .ok (.invokevirtual 163, 3) := by decide +kernel
theorem dX5_service_72 : decode cX5_service 72 = .ok (.bipush 8, 2) := by decide +kernel
theorem dX5_service_74 : decode cX5_service 74 = .ok (.irem, 1) := by decide +kernel
theorem dX5_service_75 : decode cX5_service 75 = .ok (.istore_n 3, 1) := by decide +kernel
theorem dX5_service_76 : decode cX5_service 76 = .ok (.aload_n 0, 1) := by decide +kernel
theorem dX5_service_77 : decode cX5_service 77 = .ok (.invokevirtual 111, 3) := by decide +kernel
theorem dX5_service_80 : decode cX5_service 80 = .ok (.aload_n 0, 1) := by decide +kernel
theorem dX5_service_81 : decode cX5_service 81 = .ok (.iload_n 3, 1) := by decide +kernel
theorem dX5_service_82 : decode cX5_service 82 = .ok (.invokevirtual 68, 3) := by decide +kernel
theorem dX5_service_85 : decode cX5_service 85 = .ok (.ifCond .eq 20, 3) := by decide +kernel
theorem dX5_service_88 : decode cX5_service 88 = .ok (.aload_n 0, 1) := by decide +kernel
theorem dX5_service_89 : decode cX5_service 89 = .ok (.iload_n 3, 1) := by decide +kernel
theorem dX5_service_90 : decode cX5_service 90 = .ok (.iconst 4, 1) := by decide +kernel
theorem dX5_service_91 : decode cX5_service 91 = .ok (.invokevirtual 44, 3) := by decide +kernel
theorem dX5_service_94 : decode cX5_service 94 = .ok (.ifCond .ne 11, 3) := by decide +kernel
theorem dX5_service_97 : decode cX5_service 97 = .ok (.aload_n 0, 1) := by decide +kernel
theorem dX5_service_98 : decode cX5_service 98 = .ok (.iload_n 3, 1) := by decide +kernel
theorem dX5_service_99 : decode cX5_service 99 = .ok (.invokevirtual 95, 3) := by decide +kernel
theorem dX5_service_102 : decode cX5_service 102 = .ok (.goto 4, 3) := by decide +kernel
theorem dX5_service_105 : decode cX5_service 105 = .ok (.iconst 0, 1) := by decide +kernel
theorem dX5_service_106 : decode cX5_service 106 = .ok (.istore 4, 2) := by decide +kernel
theorem dX5_service_108 : decode cX5_service 108 = .ok (.iinc 2 1, 3) := by decide +kernel
theorem dX5_service_111 : decode cX5_service 111 = .ok (.goto (-72), 3) := by decide +kernel
theorem dX5_service_114 : decode cX5_service 114 = .ok (.aload_n 0, 1) := by decide +kernel
theorem dX5_service_115 : decode cX5_service 115 = .ok (.getfield 9, 3) := by decide +kernel
theorem dX5_service_118 : decode cX5_service 118 = .ok (.iconst 3, 1) := by decide +kernel
theorem dX5_service_119 : decode cX5_service 119 = .ok (.iaload, 1) := by decide +kernel
theorem dX5_service_120 : decode cX5_service 120 = .ok (.ireturn, 1) := by decide +kernel
theorem dX5_odds_0 : decode cX5_odds 0 = .ok (.aload_n 0, 1) := by decide +kernel
theorem dX5_odds_1 : decode cX5_odds 1 = .ok (.iload_n 1, 1) := by decide +kernel
theorem dX5_odds_2 : decode cX5_odds 2 = .ok (.invokevirtual 68, 3) := by decide +kernel
theorem dX5_odds_5 : decode cX5_odds 5 = .ok (.ifCond .eq 22, 3) := by decide +kernel
theorem dX5_odds_8 : decode cX5_odds 8 = .ok (.iload_n 2, 1) := by decide +kernel
theorem dX5_odds_9 : decode cX5_odds 9 = .ok (.iconst 0, 1) := by decide +kernel
theorem dX5_odds_10 : decode cX5_odds 10 = .ok (.bipush 17, 2) := by decide +kernel
theorem dX5_odds_12 : decode cX5_odds 12 = .ok (.invokestatic 40, 3) := by decide +kernel
theorem dX5_odds_15 : decode cX5_odds 15 = .ok (.ifCond .eq 12, 3) := by decide +kernel
theorem dX5_odds_18 : decode cX5_odds 18 = .ok (.iload_n 3, 1) := by decide +kernel
theorem dX5_odds_19 : decode cX5_odds 19 = .ok (.iconst 0, 1) := by decide +kernel
theorem dX5_odds_20 : decode cX5_odds 20 = .ok (.iconst 1, 1) := by decide +kernel
theorem dX5_odds_21 : decode cX5_odds 21 = .ok (.invokestatic 40, 3) := by decide +kernel
theorem dX5_odds_24 : decode cX5_odds 24 = .ok (.ifCond .ne 11, 3) := by decide +kernel
theorem dX5_odds_27 : decode cX5_odds 27 = .ok (.aload_n 0, 1) := by decide +kernel
theorem dX5_odds_28 : decode cX5_odds 28 = .ok (.ldc 34, 2) := by decide +kernel
theorem dX5_odds_30 : decode cX5_odds 30 = .ok (.invokevirtual 36, 3) := by decide +kernel
theorem dX5_odds_33 : decode cX5_odds 33 = .ok (.i2l, 1) := by decide +kernel
theorem dX5_odds_34 : decode cX5_odds 34 = .ok (.lreturn, 1) := by decide +kernel
theorem dX5_odds_35 : decode cX5_odds 35 = .ok (.iconst 0, 1) := by decide +kernel
theorem dX5_odds_36 : decode cX5_odds 36 = .ok (.istore 4, 2) := by decide +kernel
theorem dX5_odds_38 : decode cX5_odds 38 = .ok (.iconst 0, 1) := by decide +kernel
theorem dX5_odds_39 : decode cX5_odds 39 = .ok (.istore 5, 2) := by decide +kernel
theorem dX5_odds_41 : decode cX5_odds 41 = .ok (.iload 5, 2) := by decide +kernel
theorem dX5_odds_43 : decode cX5_odds 43 = .ok (.bipush 12, 2) := by decide +kernel
theorem dX5_odds_45 : decode cX5_odds 45 = .ok (.if_icmp .ge 46, 3) := by decide +kernel
theorem dX5_odds_48 : decode cX5_odds 48 = .ok (.iload 4, 2) := by decide +kernel
theorem dX5_odds_50 : decode cX5_odds 50 = .ok (.aload_n 0, 1) := by decide +kernel
theorem dX5_odds_51 : decode cX5_odds 51 = .ok (.getfield 9, 3) := by decide +kernel
theorem dX5_odds_54 : decode cX5_odds 54 = .ok (.iconst 1, 1) := by decide +kernel
theorem dX5_odds_55 : decode cX5_odds 55 = .ok (.iaload, 1) := by decide +kernel
theorem dX5_odds_56 : decode cX5_odds 56 = .ok (.getstatic 98, 3) := by decide +kernel
theorem dX5_odds_59 : decode cX5_odds 59 = .ok (.iload 5, 2) := by decide +kernel
theorem dX5_odds_61 : decode cX5_odds 61 = .ok (.iaload, 1) := by decide +kernel
theorem dX5_odds_62 : decode cX5_odds 62 = .ok (.iadd, 1) := by decide +kernel
theorem dX5_odds_63 : decode cX5_odds 63 = .ok (.iconst 0, 1) := by decide +kernel
theorem dX5_odds_64 : decode cX5_odds 64 = .ok (.bipush 99, 2) := by decide +kernel
theorem dX5_odds_66 : decode cX5_odds 66 = .ok (.invokestatic 90, 3) := by decide +kernel
theorem dX5_odds_69 : decode cX5_odds 69 = .ok (.aload_n 0, 1) := by decide +kernel
theorem dX5_odds_70 : decode cX5_odds 70 = .ok (.iload_n 1, 1) := by decide +kernel
theorem dX5_odds_71 : decode cX5_odds 71 = .ok (.invokevirtual 71, 3) := by decide +kernel
theorem dX5_odds_74 : decode cX5_odds 74 = .ok (.if_icmp .lt 7, 3) := by decide +kernel
theorem dX5_odds_77 : decode cX5_odds 77 = .ok (.iconst 1, 1) := by decide +kernel
theorem dX5_odds_78 : decode cX5_odds 78 = .ok (.goto 4, 3) := by decide +kernel
theorem dX5_odds_81 : decode cX5_odds 81 = .ok (.iconst 0, 1) := by decide +kernel
theorem dX5_odds_82 : decode cX5_odds 82 = .ok (.iadd, 1) := by decide +kernel
theorem dX5_odds_83 : decode cX5_odds 83 = .ok (.istore 4, 2) := by decide +kernel
theorem dX5_odds_85 : decode cX5_odds 85 = .ok (.iinc 5 1, 3) := by decide +kernel
theorem dX5_odds_88 : decode cX5_odds 88 = .ok (.goto (-47), 3) := by decide +kernel
theorem dX5_odds_91 : decode cX5_odds 91 = .ok (.bipush 12, 2) := by decide +kernel
theorem dX5_odds_93 : decode cX5_odds 93 = .ok (.istore 5, 2) := by decide +kernel
theorem dX5_odds_95 : decode cX5_odds 95 = .ok (.bipush 12, 2) := by decide +kernel
theorem dX5_odds_97 : decode cX5_odds 97 = .ok (.istore 6, 2) := by decide +kernel
theorem dX5_odds_99 : decode cX5_odds 99 = .ok (.iload 6, 2) := by decide +kernel
theorem dX5_odds_101 : decode cX5_odds 101 = .ok (.iconst 1, 1) := by decide +kernel
theorem dX5_odds_102 : decode cX5_odds 102 = .ok (.if_icmp .le 39, 3) := by decide +kernel
theorem dX5_odds_105 : decode cX5_odds 105 = .ok (.iload 4, 2) := by decide +kernel
theorem dX5_odds_107 : decode cX5_odds 107 = .ok (.iload 6, 2) := by decide +kernel
theorem dX5_odds_109 : decode cX5_odds 109 = .ok (.irem, 1) := by decide +kernel
theorem dX5_odds_110 : decode cX5_odds 110 = .ok (.ifCond .ne 25, 3) := by decide +kernel
theorem dX5_odds_113 : decode cX5_odds 113 = .ok (.iload 5, 2) := by decide +kernel
theorem dX5_odds_115 : decode cX5_odds 115 = .ok (.iload 6, 2) := by decide +kernel
theorem dX5_odds_117 : decode cX5_odds 117 = .ok (.irem, 1) := by decide +kernel
theorem dX5_odds_118 : decode cX5_odds 118 = .ok (.ifCond .ne 17, 3) := by decide +kernel
theorem dX5_odds_121 : decode cX5_odds 121 = .ok (.iload 4, 2) := by decide +kernel
theorem dX5_odds_123 : decode cX5_odds 123 = .ok (.iload 6, 2) := by decide +kernel
theorem dX5_odds_125 : decode cX5_odds 125 = .ok (.idiv, 1) := by decide +kernel
theorem dX5_odds_126 : decode cX5_odds 126 = .ok (.istore 4, 2) := by decide +kernel
theorem dX5_odds_128 : decode cX5_odds 128 = .ok (.iload 5, 2) := by decide +kernel
theorem dX5_odds_130 : decode cX5_odds 130 = .ok (.iload 6, 2) := by decide +kernel
theorem dX5_odds_132 : decode cX5_odds 132 = .ok (.idiv, 1) := by decide +kernel
theorem dX5_odds_133 : decode cX5_odds 133 = .ok (.istore 5, 2) := by decide +kernel
theorem dX5_odds_135 : decode cX5_odds 135 = .ok (.iinc 6 (-1), 3) := by decide +kernel
theorem dX5_odds_138 : decode cX5_odds 138 = .ok (.goto (-39), 3) := by decide +kernel
theorem dX5_odds_141 : decode cX5_odds 141 = .ok (.lconst 1, 1) := by decide +kernel
theorem dX5_odds_142 : decode cX5_odds 142 = .ok (.lstore 6, 2) := by decide +kernel
theorem dX5_odds_144 : decode cX5_odds 144 = .ok (.iconst 0, 1) := by decide +kernel
theorem dX5_odds_145 : decode cX5_odds 145 = .ok (.istore 8, 2) := by decide +kernel
theorem dX5_odds_147 : decode cX5_odds 147 = .ok (.iload 8, 2) := by decide +kernel
theorem dX5_odds_149 : decode cX5_odds 149 = .ok (.iload_n 2, 1) := by decide +kernel
theorem dX5_odds_150 : decode cX5_odds 150 = .ok (.if_icmp .ge 27, 3) := by decide +kernel
theorem dX5_odds_153 : decode cX5_odds 153 = .ok (.lload 6, 2) := by decide +kernel
theorem dX5_odds_155 : decode cX5_odds 155 = .ok (.iload_n 3, 1) := by decide +kernel
theorem dX5_odds_156 : decode cX5_odds 156 = .ok (.ifCond .ne 9, 3) := by decide +kernel
theorem dX5_odds_159 : decode cX5_odds 159 = .ok (.iload 4, 2) := by decide +kernel
theorem dX5_odds_161 : decode cX5_odds 161 = .ok (.i2l, 1) := by decide +kernel
theorem dX5_odds_162 : decode cX5_odds 162 = .ok (.goto 6, 3) := by decide +kernel
theorem dX5_odds_165 : decode cX5_odds 165 = .ok (.iload 5, 2) := by decide +kernel
theorem dX5_odds_167 : decode cX5_odds 167 = .ok (.i2l, 1) := by decide +kernel
theorem dX5_odds_168 : decode cX5_odds 168 = .ok (.lmul, 1) := by decide +kernel
theorem dX5_odds_169 : decode cX5_odds 169 = .ok (.lstore 6, 2) := by decide +kernel
theorem dX5_odds_171 : decode cX5_odds 171 = .ok (.iinc 8 1, 3) := by decide +kernel
theorem dX5_odds_174 : decode cX5_odds 174 = .ok (.goto (-27), 3) := by decide +kernel
theorem dX5_odds_177 : decode cX5_odds 177 = .ok (.lload 6, 2) := by decide +kernel
theorem dX5_odds_179 : decode cX5_odds 179 = .ok (.lreturn, 1) := by decide +kernel
theorem dX5_seed_0 : decode cX5_seed 0 = .ok (.aload_n 0, 1) := by decide +kernel
theorem dX5_seed_1 : decode cX5_seed 1 = .ok (.iconst 4, 1) := by decide +kernel
theorem dX5_seed_2 : decode cX5_seed 2 = .ok (.iload_n 1, 1) := by decide +kernel
theorem dX5_seed_3 : decode cX5_seed 3 = .ok (.invokevirtual 52, 3) := by decide +kernel
theorem dX5_seed_6 : decode cX5_seed 6 = .ok (.ireturn, 1) := by decide +kernel
theorem dX5_feed_0 : decode cX5_feed 0 = .ok (.iload_n 2, 1) := by decide +kernel
theorem dX5_feed_1 : decode cX5_feed 1 = .ok (.iconst 1, 1) := by decide +kernel
theorem dX5_feed_2 : decode cX5_feed 2 = .ok (.iconst 4, 1) := by decide +kernel
theorem dX5_feed_3 : decode cX5_feed 3 = .ok (.invokestatic 40, 3) := by decide +kernel
theorem dX5_feed_6 : decode cX5_feed 6 = .ok (.ifCond .ne 10, 3) := by decide +kernel
theorem dX5_feed_9 : decode cX5_feed 9 = .ok (.aload_n 0, 1) := by decide +kernel
theorem dX5_feed_10 : decode cX5_feed 10 = .ok (.ldc 34, 2) := by decide +kernel
theorem dX5_feed_12 : decode cX5_feed 12 = .ok (.invokevirtual 36, 3) := by decide +kernel
theorem dX5_feed_15 : decode cX5_feed 15 = .ok (.ireturn, 1) := by decide +kernel
theorem dX5_feed_16 : decode cX5_feed 16 = .ok (.aload_n 0, 1) := by decide +kernel
theorem dX5_feed_17 : decode cX5_feed 17 = .ok (.getfield 166, 3) := by decide +kernel
theorem dX5_feed_20 : decode cX5_feed 20 = .ok (.iload_n 2, 1) := by decide +kernel
theorem dX5_feed_21 : decode cX5_feed 21 = .ok (.iadd, 1) := by decide +kernel
theorem dX5_feed_22 : decode cX5_feed 22 = .ok (.bipush 120, 2) := by decide +kernel
theorem dX5_feed_24 : decode cX5_feed 24 = .ok (.if_icmp .le 10, 3) := by decide +kernel
theorem dX5_feed_27 : decode cX5_feed 27 = .ok (.aload_n 0, 1) := by decide +kernel
theorem dX5_feed_28 : decode cX5_feed 28 = .ok (.ldc 63, 2) := by decide +kernel
theorem dX5_feed_30 : decode cX5_feed 30 = .ok (.invokevirtual 36, 3) := by decide +kernel
theorem dX5_feed_33 : decode cX5_feed 33 = .ok (.ireturn, 1) := by decide +kernel
theorem dX5_feed_34 : decode cX5_feed 34 = .ok (.iload_n 2, 1) := by decide +kernel
theorem dX5_feed_35 : decode cX5_feed 35 = .ok (.iconst 1, 1) := by decide +kernel
theorem dX5_feed_36 : decode cX5_feed 36 = .ok (.isub, 1) := by decide +kernel
theorem dX5_feed_37 : decode cX5_feed 37 = .ok (.istore_n 3, 1) := by decide +kernel
theorem dX5_feed_38 : decode cX5_feed 38 = .ok (.iload_n 3, 1) := by decide +kernel
theorem dX5_feed_39 : decode cX5_feed 39 = .ok (.ifCond .lt 38, 3) := by decide +kernel
theorem dX5_feed_42 : decode cX5_feed 42 = .ok (.aload_n 0, 1) := by decide +kernel
theorem dX5_feed_43 : decode cX5_feed 43 = .ok (.getfield 31, 3) := by decide +kernel
theorem dX5_feed_46 : decode cX5_feed 46 = .ok (.aload_n 0, 1) := by decide +kernel
theorem dX5_feed_47 : decode cX5_feed 47 = .ok (.getfield 166, 3) := by decide +kernel
theorem dX5_feed_50 : decode cX5_feed 50 = .ok (.iload_n 1, 1) := by decide +kernel
theorem dX5_feed_51 : decode cX5_feed 51 = .ok (.bipush 8, 2) := by decide +kernel
theorem dX5_feed_53 : decode cX5_feed 53 = .ok (.iload_n 3, 1) := by decide +kernel
theorem dX5_feed_54 : decode cX5_feed 54 = .ok (.imul, 1) := by decide +kernel
theorem dX5_feed_55 : decode cX5_feed 55 = .ok (.ishr, 1) := by decide +kernel
theorem dX5_feed_56 : decode cX5_feed 56 = .ok (.sipush 255, 3) := by decide +kernel
theorem dX5_feed_59 : decode cX5_feed 59 = .ok (.iand, 1) := by decide +kernel
theorem dX5_feed_60 : decode cX5_feed 60 = .ok (.iastore, 1) := by decide +kernel
theorem dX5_feed_61 : decode cX5_feed 61 = .ok (.aload_n 0, 1) := by decide +kernel
theorem dX5_feed_62 : decode cX5_feed 62 = .ok (.dup, 1) := by decide +kernel
theorem dX5_feed_63 : decode cX5_feed 63 = .ok (.getfield 166, 3) := by decide +kernel
theorem dX5_feed_66 : decode cX5_feed 66 = .ok (.iconst 1, 1) := by decide +kernel
theorem dX5_feed_67 : decode cX5_feed 67 = .ok (.iadd, 1) := by decide +kernel
theorem dX5_feed_68 : decode cX5_feed 68 = .ok (.putfield 166, 3) := by decide +kernel
theorem dX5_feed_71 : decode cX5_feed 71 = .ok (.iinc 3 (-1), 3) := by decide +kernel
theorem dX5_feed_74 : decode cX5_feed 74 = .ok (.goto (-36), 3) := by decide +kernel
theorem dX5_feed_77 : decode cX5_feed 77 = .ok (.aload_n 0, 1) := by decide +kernel
theorem dX5_feed_78 : decode cX5_feed 78 = .ok (.getfield 166, 3) := by decide +kernel
theorem dX5_feed_81 : decode cX5_feed 81 = .ok (.ireturn, 1) := by decide +kernel
theorem dX5_wipe_0 : decode cX5_wipe 0 = .ok (.aload_n 0, 1) := by decide +kernel
theorem dX5_wipe_1 : decode cX5_wipe 1 = .ok (.getfield 166, 3) := by decide +kernel
theorem dX5_wipe_4 : decode cX5_wipe 4 = .ok (.istore_n 1, 1) := by decide +kernel
theorem dX5_wipe_5 : decode cX5_wipe 5 = .ok (.aload_n 0, 1) := by decide +kernel
theorem dX5_wipe_6 : decode cX5_wipe 6 = .ok (.iconst 0, 1) := by decide +kernel
theorem dX5_wipe_7 : decode cX5_wipe 7 = .ok (.putfield 166, 3) := by decide +kernel
theorem dX5_wipe_10 : decode cX5_wipe 10 = .ok (.iload_n 1, 1) := by decide +kernel
theorem dX5_wipe_11 : decode cX5_wipe 11 = .ok (.ireturn, 1) := by decide +kernel
theorem dX5_isByte_0 : decode cX5_isByte 0 = .ok (.iload_n 1, 1) := by decide +kernel
theorem dX5_isByte_1 : decode cX5_isByte 1 = .ok (.aload_n 0, 1) := by decide +kernel
theorem dX5_isByte_2 : decode cX5_isByte 2 = .ok (.getfield 166, 3) := by decide +kernel
theorem dX5_isByte_5 : decode cX5_isByte 5 = .ok (.if_icmp .ge 21, 3) := by decide +kernel
theorem dX5_isByte_8 : decode cX5_isByte 8 = .ok (.aload_n 0, 1) := by decide +kernel
theorem dX5_isByte_9 : decode cX5_isByte 9 = .ok (.getfield 31, 3) := by decide +kernel
theorem dX5_isByte_12 : decode cX5_isByte 12 = .ok (.iload_n 1, 1) := by decide +kernel
theorem dX5_isByte_13 : decode cX5_isByte 13 = .ok (.iaload, 1) := by decide +kernel
theorem dX5_isByte_14 : decode cX5_isByte 14 = .ok (.iload_n 2, 1) := by decide +kernel
theorem dX5_isByte_15 : decode cX5_isByte 15 = .ok (.iload_n 3, 1) := by decide +kernel
theorem dX5_isByte_16 : decode cX5_isByte 16 = .ok (.invokestatic 40, 3) := by decide +kernel
theorem dX5_isByte_19 : decode cX5_isByte 19 = .ok (.ifCond .eq 7, 3) := by decide +kernel
theorem dX5_isByte_22 : decode cX5_isByte 22 = .ok (.iconst 1, 1) := by decide +kernel
theorem dX5_isByte_23 : decode cX5_isByte 23 = .ok (.goto 4, 3) := by decide +kernel
theorem dX5_isByte_26 : decode cX5_isByte 26 = .ok (.iconst 0, 1) := by decide +kernel
theorem dX5_isByte_27 : decode cX5_isByte 27 = .ok (.ireturn, 1) := by decide +kernel
theorem dX5_isName_0 : decode cX5_isName 0 = .ok (.iload_n 2, 1) := by decide +kernel
theorem dX5_isName_1 : decode cX5_isName 1 = .ok (.bipush 7, 2) := by decide +kernel
theorem dX5_isName_3 : decode cX5_isName 3 = .ok (.if_icmp .gt 26, 3) := by decide +kernel
theorem dX5_isName_6 : decode cX5_isName 6 = .ok (.iload_n 2, 1) := by decide +kernel
theorem dX5_isName_7 : decode cX5_isName 7 = .ok (.bipush 7, 2) := by decide +kernel
theorem dX5_isName_9 : decode cX5_isName 9 = .ok (.if_icmp .eq 16, 3) := by decide +kernel
theorem dX5_isName_12 : decode cX5_isName 12 = .ok (.getstatic 170, 3) := by decide +kernel
theorem dX5_isName_15 : decode cX5_isName 15 = .ok (.bipush 7, 2) := by decide +kernel
theorem dX5_isName_17 : decode cX5_isName 17 = .ok (.iload_n 1, 1) := by decide +kernel
theorem dX5_isName_18 : decode cX5_isName 18 = .ok (.imul, 1) := by decide +kernel
theorem dX5_isName_19 : decode cX5_isName 19 = .ok (.iload_n 2, 1) := by decide +kernel
theorem dX5_isName_20 : decode cX5_isName 20 = .ok (.iadd, 1) := by decide +kernel
theorem dX5_isName_21 : decode cX5_isName 21 = .ok (.iaload, 1) := by decide +kernel
theorem dX5_isName_22 : decode cX5_isName 22 = .ok (.ifCond .ne 7, 3) := by decide +kernel
theorem dX5_isName_25 : decode cX5_isName 25 = .ok (.iconst 1, 1) := by decide +kernel
theorem dX5_isName_26 : decode cX5_isName 26 = .ok (.goto 4, 3) := by decide +kernel
theorem dX5_isName_29 : decode cX5_isName 29 = .ok (.iconst 0, 1) := by decide +kernel
theorem dX5_isName_30 : decode cX5_isName 30 = .ok (.istore_n 3, 1) := by decide +kernel
theorem dX5_isName_31 : decode cX5_isName 31 = .ok (.iconst 0, 1) := by decide +kernel
theorem dX5_isName_32 : decode cX5_isName 32 = .ok (.istore 4, 2) := by decide +kernel
theorem dX5_isName_34 : decode cX5_isName 34 = .ok (.iload 4, 2) := by decide +kernel
theorem dX5_isName_36 : decode cX5_isName 36 = .ok (.iload_n 2, 1) := by decide +kernel
theorem dX5_isName_37 : decode cX5_isName 37 = .ok (.if_icmp .ge 45, 3) := by decide +kernel
theorem dX5_isName_40 : decode cX5_isName 40 = .ok (.iload_n 3, 1) := by decide +kernel
theorem dX5_isName_41 : decode cX5_isName 41 = .ok (.ifCond .eq 41, 3) := by decide +kernel
theorem dX5_isName_44 : decode cX5_isName 44 = .ok (.getstatic 170, 3) := by decide +kernel
theorem dX5_isName_47 : decode cX5_isName 47 = .ok (.bipush 7, 2) := by decide +kernel
theorem dX5_isName_49 : decode cX5_isName 49 = .ok (.iload_n 1, 1) := by decide +kernel
theorem dX5_isName_50 : decode cX5_isName 50 = .ok (.imul, 1) := by decide +kernel
theorem dX5_isName_51 : decode cX5_isName 51 = .ok (.iload 4, 2) := by decide +kernel
theorem dX5_isName_53 : decode cX5_isName 53 = .ok (.iadd, 1) := by decide +kernel
theorem dX5_isName_54 : decode cX5_isName 54 = .ok (.iaload, 1) := by decide +kernel
theorem dX5_isName_55 : decode cX5_isName 55 = .ok (.aload_n 0, 1) := by decide +kernel
theorem dX5_isName_56 : decode cX5_isName 56 = .ok (.getfield 31, 3) := by decide +kernel
theorem dX5_isName_59 : decode cX5_isName 59 = .ok (.aload_n 0, 1) := by decide +kernel
theorem dX5_isName_60 : decode cX5_isName 60 = .ok (.getfield 173, 3) := by decide +kernel
theorem dX5_isName_63 : decode cX5_isName 63 = .ok (.iload 4, 2) := by decide +kernel
theorem dX5_isName_65 : decode cX5_isName 65 = .ok (.iadd, 1) := by decide +kernel
theorem dX5_isName_66 : decode cX5_isName 66 = .ok (.iaload, 1) := by decide +kernel
theorem dX5_isName_67 : decode cX5_isName 67 = .ok (.if_icmp .ne 7, 3) := by decide +kernel
theorem dX5_isName_70 : decode cX5_isName 70 = .ok (.iconst 1, 1) := by decide +kernel
theorem dX5_isName_71 : decode cX5_isName 71 = .ok (.goto 4, 3) := by decide +kernel
theorem dX5_isName_74 : decode cX5_isName 74 = .ok (.iconst 0, 1) := by decide +kernel
theorem dX5_isName_75 : decode cX5_isName 75 = .ok (.istore_n 3, 1) := by decide +kernel
theorem dX5_isName_76 : decode cX5_isName 76 = .ok (.iinc 4 1, 3) := by decide +kernel
theorem dX5_isName_79 : decode cX5_isName 79 = .ok (.goto (-45), 3) := by decide +kernel
theorem dX5_isName_82 : decode cX5_isName 82 = .ok (.iload_n 3, 1) := by decide +kernel
theorem dX5_isName_83 : decode cX5_isName 83 = .ok (.ireturn, 1) := by decide +kernel
theorem dX5_wordHere_0 : decode cX5_wordHere 0 = .ok (.iconst 0, 1) := by decide +kernel
theorem dX5_wordHere_1 : decode cX5_wordHere 1 = .ok (.istore_n 1, 1) := by decide +kernel
theorem dX5_wordHere_2 : decode cX5_wordHere 2 = .ok (.iload_n 1, 1) := by decide +kernel
theorem dX5_wordHere_3 : decode cX5_wordHere 3 = .ok (.bipush 14, 2) := by decide +kernel
theorem dX5_wordHere_5 : decode cX5_wordHere 5 = .ok (.if_icmp .ge 26, 3) := by decide +kernel
theorem dX5_wordHere_8 : decode cX5_wordHere 8 = .ok (.aload_n 0, 1) := by decide +kernel
theorem dX5_wordHere_9 : decode cX5_wordHere 9 = .ok (.iload_n 1, 1) := by decide +kernel
theorem dX5_wordHere_10 : decode cX5_wordHere 10 = .ok (.aload_n 0, 1) := by decide +kernel
theorem dX5_wordHere_11 : decode cX5_wordHere 11 = .ok (.getfield 176, 3) := by decide +kernel
theorem dX5_wordHere_14 : decode cX5_wordHere 14 = .ok (.aload_n 0, 1) := by decide +kernel
theorem dX5_wordHere_15 : decode cX5_wordHere 15 = .ok (.getfield 173, 3) := by decide +kernel
theorem dX5_wordHere_18 : decode cX5_wordHere 18 = .ok (.isub, 1) := by decide +kernel
theorem dX5_wordHere_19 : decode cX5_wordHere 19 = .ok (.invokevirtual 179, 3) := by decide +kernel
theorem dX5_wordHere_22 : decode cX5_wordHere 22 = .ok (.ifCond .ne 9, 3) := by decide +kernel
theorem dX5_wordHere_25 : decode cX5_wordHere 25 = .ok (.iinc 1 1, 3) := by decide +kernel
theorem dX5_wordHere_28 : decode cX5_wordHere 28 = .ok (.goto (-26), 3) := by decide +kernel
theorem dX5_wordHere_31 : decode cX5_wordHere 31 = .ok (.iload_n 1, 1) := by decide +kernel
theorem dX5_wordHere_32 : decode cX5_wordHere 32 = .ok (.bipush 14, 2) := by decide +kernel
theorem dX5_wordHere_34 : decode cX5_wordHere 34 = .ok (.if_icmp .ge 7, 3) := by decide +kernel
theorem dX5_wordHere_37 : decode cX5_wordHere 37 = .ok (.iload_n 1, 1) := by decide +kernel
theorem dX5_wordHere_38 : decode cX5_wordHere 38 = .ok (.goto 5, 3) := by decide +kernel
theorem dX5_wordHere_41 : decode cX5_wordHere 41 = .ok (.bipush 23, 2) := by decide +kernel
theorem dX5_wordHere_43 : decode cX5_wordHere 43 = .ok (.ireturn, 1) := by decide +kernel
theorem dX5_reads_0 : decode cX5_reads 0 = .ok (.aload_n 0, 1) := by decide +kernel
theorem dX5_reads_1 : decode cX5_reads 1 = .ok (.aload_n 0, 1) := by decide +kernel
theorem dX5_reads_2 : decode cX5_reads 2 = .ok (.getfield 176, 3) := by decide +kernel
theorem dX5_reads_5 : decode cX5_reads 5 = .ok (.bipush 32, 2) := by decide +kernel
theorem dX5_reads_7 : decode cX5_reads 7 = .ok (.bipush 32, 2) := by decide +kernel
theorem dX5_reads_9 : decode cX5_reads 9 = .ok (.invokevirtual 182, 3) := by decide +kernel
theorem dX5_reads_12 : decode cX5_reads 12 = .ok (.ifCond .eq 16, 3) := by decide +kernel
theorem dX5_reads_15 : decode cX5_reads 15 = .ok (.aload_n 0, 1) := by decide +kernel
theorem dX5_reads_16 : decode cX5_reads 16 = .ok (.dup, 1) := by decide +kernel
theorem dX5_reads_17 : decode cX5_reads 17 = .ok (.getfield 176, 3) := by decide +kernel
theorem dX5_reads_20 : decode cX5_reads 20 = .ok (.iconst 1, 1) := by decide +kernel
theorem dX5_reads_21 : decode cX5_reads 21 = .ok (.iadd, 1) := by decide +kernel
theorem dX5_reads_22 : decode cX5_reads 22 = .ok (.putfield 176, 3) := by decide +kernel
theorem dX5_reads_25 : decode cX5_reads 25 = .ok (.goto (-25), 3) := by decide +kernel
theorem dX5_reads_28 : decode cX5_reads 28 = .ok (.aload_n 0, 1) := by decide +kernel
theorem dX5_reads_29 : decode cX5_reads 29 = .ok (.aload_n 0, 1) := by decide +kernel
theorem dX5_reads_30 : decode cX5_reads 30 = .ok (.getfield 176, 3) := by decide +kernel
theorem dX5_reads_33 : decode cX5_reads 33 = .ok (.putfield 173, 3) := by decide +kernel
theorem dX5_reads_36 : decode cX5_reads 36 = .ok (.aload_n 0, 1) := by decide +kernel
theorem dX5_reads_37 : decode cX5_reads 37 = .ok (.iconst 0, 1) := by decide +kernel
theorem dX5_reads_38 : decode cX5_reads 38 = .ok (.putfield 185, 3) := by decide +kernel
theorem dX5_reads_41 : decode cX5_reads 41 = .ok (.aload_n 0, 1) := by decide +kernel
theorem dX5_reads_42 : decode cX5_reads 42 = .ok (.getfield 176, 3) := by decide +kernel
theorem dX5_reads_45 : decode cX5_reads 45 = .ok (.aload_n 0, 1) := by decide +kernel
theorem dX5_reads_46 : decode cX5_reads 46 = .ok (.getfield 166, 3) := by decide +kernel
theorem dX5_reads_49 : decode cX5_reads 49 = .ok (.if_icmp .ne 12, 3) := by decide +kernel
theorem dX5_reads_52 : decode cX5_reads 52 = .ok (.aload_n 0, 1) := by decide +kernel
theorem dX5_reads_53 : decode cX5_reads 53 = .ok (.bipush 22, 2) := by decide +kernel
theorem dX5_reads_55 : decode cX5_reads 55 = .ok (.putfield 188, 3) := by decide +kernel
theorem dX5_reads_58 : decode cX5_reads 58 = .ok (.goto 186, 3) := by decide +kernel
theorem dX5_reads_61 : decode cX5_reads 61 = .ok (.aload_n 0, 1) := by decide +kernel
theorem dX5_reads_62 : decode cX5_reads 62 = .ok (.aload_n 0, 1) := by decide +kernel
theorem dX5_reads_63 : decode cX5_reads 63 = .ok (.getfield 176, 3) := by decide +kernel
theorem dX5_reads_66 : decode cX5_reads 66 = .ok (.bipush 97, 2) := by decide +kernel
theorem dX5_reads_68 : decode cX5_reads 68 = .ok (.bipush 122, 2) := by decide +kernel
theorem dX5_reads_70 : decode cX5_reads 70 = .ok (.invokevirtual 182, 3) := by decide +kernel
theorem dX5_reads_73 : decode cX5_reads 73 = .ok (.ifCond .eq 42, 3) := by decide +kernel
theorem dX5_reads_76 : decode cX5_reads 76 = .ok (.aload_n 0, 1) := by decide +kernel
theorem dX5_reads_77 : decode cX5_reads 77 = .ok (.aload_n 0, 1) := by decide +kernel
theorem dX5_reads_78 : decode cX5_reads 78 = .ok (.getfield 176, 3) := by decide +kernel
theorem dX5_reads_81 : decode cX5_reads 81 = .ok (.bipush 97, 2) := by decide +kernel
theorem dX5_reads_83 : decode cX5_reads 83 = .ok (.bipush 122, 2) := by decide +kernel
theorem dX5_reads_85 : decode cX5_reads 85 = .ok (.invokevirtual 182, 3) := by decide +kernel
theorem dX5_reads_88 : decode cX5_reads 88 = .ok (.ifCond .eq 16, 3) := by decide +kernel
theorem dX5_reads_91 : decode cX5_reads 91 = .ok (.aload_n 0, 1) := by decide +kernel
theorem dX5_reads_92 : decode cX5_reads 92 = .ok (.dup, 1) := by decide +kernel
theorem dX5_reads_93 : decode cX5_reads 93 = .ok (.getfield 176, 3) := by decide +kernel
theorem dX5_reads_96 : decode cX5_reads 96 = .ok (.iconst 1, 1) := by decide +kernel
theorem dX5_reads_97 : decode cX5_reads 97 = .ok (.iadd, 1) := by decide +kernel
theorem dX5_reads_98 : decode cX5_reads 98 = .ok (.putfield 176, 3) := by decide +kernel
theorem dX5_reads_101 : decode cX5_reads 101 = .ok (.goto (-25), 3) := by decide +kernel
theorem dX5_reads_104 : decode cX5_reads 104 = .ok (.aload_n 0, 1) := by decide +kernel
theorem dX5_reads_105 : decode cX5_reads 105 = .ok (.aload_n 0, 1) := by decide +kernel
theorem dX5_reads_106 : decode cX5_reads 106 = .ok (.invokevirtual 191, 3) := by decide +kernel
theorem dX5_reads_109 : decode cX5_reads 109 = .ok (.putfield 188, 3) := by decide +kernel
theorem dX5_reads_112 : decode cX5_reads 112 = .ok (.goto 132, 3) := by decide +kernel
theorem dX5_reads_115 : decode cX5_reads 115 = .ok (.aload_n 0, 1) := by decide +kernel
theorem dX5_reads_116 : decode cX5_reads 116 = .ok (.aload_n 0, 1) := by decide +kernel
theorem dX5_reads_117 : decode cX5_reads 117 = .ok (.getfield 176, 3) := by decide +kernel
theorem dX5_reads_120 : decode cX5_reads 120 = .ok (.bipush 48, 2) := by decide +kernel
theorem dX5_reads_122 : decode cX5_reads 122 = .ok (.bipush 57, 2) := by decide +kernel
theorem dX5_reads_124 : decode cX5_reads 124 = .ok (.invokevirtual 182, 3) := by decide +kernel
theorem dX5_reads_127 : decode cX5_reads 127 = .ok (.ifCond .eq 81, 3) := by decide +kernel
theorem dX5_reads_130 : decode cX5_reads 130 = .ok (.aload_n 0, 1) := by decide +kernel
theorem dX5_reads_131 : decode cX5_reads 131 = .ok (.aload_n 0, 1) := by decide +kernel
theorem dX5_reads_132 : decode cX5_reads 132 = .ok (.getfield 176, 3) := by decide +kernel
theorem dX5_reads_135 : decode cX5_reads 135 = .ok (.bipush 48, 2) := by decide +kernel
theorem dX5_reads_137 : decode cX5_reads 137 = .ok (.bipush 57, 2) := by decide +kernel
theorem dX5_reads_139 : decode cX5_reads 139 = .ok (.invokevirtual 182, 3) := by decide +kernel
theorem dX5_reads_142 : decode cX5_reads 142 = .ok (.ifCond .eq 57, 3) := by decide +kernel
theorem dX5_reads_145 : decode cX5_reads 145 = .ok (.aload_n 0, 1) := by decide +kernel
theorem dX5_reads_146 : decode cX5_reads 146 = .ok (.aload_n 0, 1) := by decide +kernel
theorem dX5_reads_147 : decode cX5_reads 147 = .ok (.getfield 185, 3) := by decide +kernel
theorem dX5_reads_150 : decode cX5_reads 150 = .ok (.sipush 999, 3) := by decide +kernel
theorem dX5_reads_153 : decode cX5_reads 153 = .ok (.if_icmp .le 10, 3) := by decide +kernel
theorem dX5_reads_156 : decode cX5_reads 156 = .ok (.aload_n 0, 1) := by decide +kernel
theorem dX5_reads_157 : decode cX5_reads 157 = .ok (.getfield 185, 3) := by decide +kernel
theorem dX5_reads_160 : decode cX5_reads 160 = .ok (.goto 23, 3) := by decide +kernel
theorem dX5_reads_163 : decode cX5_reads 163 = .ok (.bipush 10, 2) := by decide +kernel
theorem dX5_reads_165 : decode cX5_reads 165 = .ok (.aload_n 0, 1) := by decide +kernel
theorem dX5_reads_166 : decode cX5_reads 166 = .ok (.getfield 185, 3) := by decide +kernel
theorem dX5_reads_169 : decode cX5_reads 169 = .ok (.imul, 1) := by decide +kernel
theorem dX5_reads_170 : decode cX5_reads 170 = .ok (.aload_n 0, 1) := by decide +kernel
theorem dX5_reads_171 : decode cX5_reads 171 = .ok (.getfield 31, 3) := by decide +kernel
theorem dX5_reads_174 : decode cX5_reads 174 = .ok (.aload_n 0, 1) := by decide +kernel
theorem dX5_reads_175 : decode cX5_reads 175 = .ok (.getfield 176, 3) := by decide +kernel
theorem dX5_reads_178 : decode cX5_reads 178 = .ok (.iaload, 1) := by decide +kernel
theorem dX5_reads_179 : decode cX5_reads 179 = .ok (.iadd, 1) := by decide +kernel
theorem dX5_reads_180 : decode cX5_reads 180 = .ok (.bipush 48, 2) := by decide +kernel
theorem dX5_reads_182 : decode cX5_reads 182 = .ok (.isub, 1) := by decide +kernel
theorem dX5_reads_183 : decode cX5_reads 183 = .ok (.putfield 185, 3) := by decide +kernel
theorem dX5_reads_186 : decode cX5_reads 186 = .ok (.aload_n 0, 1) := by decide +kernel
theorem dX5_reads_187 : decode cX5_reads 187 = .ok (.dup, 1) := by decide +kernel
theorem dX5_reads_188 : decode cX5_reads 188 = .ok (.getfield 176, 3) := by decide +kernel
theorem dX5_reads_191 : decode cX5_reads 191 = .ok (.iconst 1, 1) := by decide +kernel
theorem dX5_reads_192 : decode cX5_reads 192 = .ok (.iadd, 1) := by decide +kernel
theorem dX5_reads_193 : decode cX5_reads 193 = .ok (.putfield 176, 3) := by decide +kernel
theorem dX5_reads_196 : decode cX5_reads 196 = .ok (.goto (-66), 3) := by decide +kernel
theorem dX5_reads_199 : decode cX5_reads 199 = .ok (.aload_n 0, 1) := by decide +kernel
theorem dX5_reads_200 : decode cX5_reads 200 = .ok (.bipush 20, 2) := by decide +kernel
theorem dX5_reads_202 : decode cX5_reads 202 = .ok (.putfield 188, 3) := by decide +kernel
theorem dX5_reads_205 : decode cX5_reads 205 = .ok (.goto 39, 3) := by decide +kernel
theorem dX5_reads_208 : decode cX5_reads 208 = .ok (.aload_n 0, 1) := by decide +kernel
theorem dX5_reads_209 : decode cX5_reads 209 = .ok (.aload_n 0, 1) := by decide +kernel
theorem dX5_reads_210 : decode cX5_reads 210 = .ok (.aload_n 0, 1) := by decide +kernel
theorem dX5_reads_211 : decode cX5_reads 211 = .ok (.getfield 176, 3) := by decide +kernel
theorem dX5_reads_214 : decode cX5_reads 214 = .ok (.bipush 59, 2) := by decide +kernel
theorem dX5_reads_216 : decode cX5_reads 216 = .ok (.bipush 59, 2) := by decide +kernel
theorem dX5_reads_218 : decode cX5_reads 218 = .ok (.invokevirtual 182, 3) := by decide +kernel
theorem dX5_reads_221 : decode cX5_reads 221 = .ok (.ifCond .eq 8, 3) := by decide +kernel
theorem dX5_reads_224 : decode cX5_reads 224 = .ok (.bipush 21, 2) := by decide +kernel
theorem dX5_reads_226 : decode cX5_reads 226 = .ok (.goto 5, 3) := by decide +kernel
theorem dX5_reads_229 : decode cX5_reads 229 = .ok (.bipush 23, 2) := by decide +kernel
theorem dX5_reads_231 : decode cX5_reads 231 = .ok (.putfield 188, 3) := by decide +kernel
theorem dX5_reads_234 : decode cX5_reads 234 = .ok (.aload_n 0, 1) := by decide +kernel
theorem dX5_reads_235 : decode cX5_reads 235 = .ok (.dup, 1) := by decide +kernel
theorem dX5_reads_236 : decode cX5_reads 236 = .ok (.getfield 176, 3) := by decide +kernel
theorem dX5_reads_239 : decode cX5_reads 239 = .ok (.iconst 1, 1) := by decide +kernel
theorem dX5_reads_240 : decode cX5_reads 240 = .ok (.iadd, 1) := by decide +kernel
theorem dX5_reads_241 : decode cX5_reads 241 = .ok (.putfield 176, 3) := by decide +kernel
theorem dX5_reads_244 : decode cX5_reads 244 = .ok (.return_, 1) := by decide +kernel
theorem dX5_takes_0 : decode cX5_takes 0 = .ok (.aload_n 0, 1) := by decide +kernel
theorem dX5_takes_1 : decode cX5_takes 1 = .ok (.getfield 194, 3) := by decide +kernel
theorem dX5_takes_4 : decode cX5_takes 4 = .ok (.ifCond .ne 11, 3) := by decide +kernel
theorem dX5_takes_7 : decode cX5_takes 7 = .ok (.aload_n 0, 1) := by decide +kernel
theorem dX5_takes_8 : decode cX5_takes 8 = .ok (.getfield 188, 3) := by decide +kernel
theorem dX5_takes_11 : decode cX5_takes 11 = .ok (.iload_n 1, 1) := by decide +kernel
theorem dX5_takes_12 : decode cX5_takes 12 = .ok (.if_icmp .eq 5, 3) := by decide +kernel
theorem dX5_takes_15 : decode cX5_takes 15 = .ok (.iconst 0, 1) := by decide +kernel
theorem dX5_takes_16 : decode cX5_takes 16 = .ok (.ireturn, 1) := by decide +kernel
theorem dX5_takes_17 : decode cX5_takes 17 = .ok (.aload_n 0, 1) := by decide +kernel
theorem dX5_takes_18 : decode cX5_takes 18 = .ok (.invokevirtual 198, 3) := by decide +kernel
theorem dX5_takes_21 : decode cX5_takes 21 = .ok (.iconst 1, 1) := by decide +kernel
theorem dX5_takes_22 : decode cX5_takes 22 = .ok (.ireturn, 1) := by decide +kernel
theorem dX5_number_0 : decode cX5_number 0 = .ok (.aload_n 0, 1) := by decide +kernel
theorem dX5_number_1 : decode cX5_number 1 = .ok (.getfield 185, 3) := by decide +kernel
theorem dX5_number_4 : decode cX5_number 4 = .ok (.istore_n 3, 1) := by decide +kernel
theorem dX5_number_5 : decode cX5_number 5 = .ok (.aload_n 0, 1) := by decide +kernel
theorem dX5_number_6 : decode cX5_number 6 = .ok (.aload_n 0, 1) := by decide +kernel
theorem dX5_number_7 : decode cX5_number 7 = .ok (.getfield 194, 3) := by decide +kernel
theorem dX5_number_10 : decode cX5_number 10 = .ok (.ifCond .ne 21, 3) := by decide +kernel
theorem dX5_number_13 : decode cX5_number 13 = .ok (.aload_n 0, 1) := by decide +kernel
theorem dX5_number_14 : decode cX5_number 14 = .ok (.getfield 188, 3) := by decide +kernel
theorem dX5_number_17 : decode cX5_number 17 = .ok (.bipush 20, 2) := by decide +kernel
theorem dX5_number_19 : decode cX5_number 19 = .ok (.if_icmp .ne 12, 3) := by decide +kernel
theorem dX5_number_22 : decode cX5_number 22 = .ok (.iload_n 3, 1) := by decide +kernel
theorem dX5_number_23 : decode cX5_number 23 = .ok (.iload_n 1, 1) := by decide +kernel
theorem dX5_number_24 : decode cX5_number 24 = .ok (.iload_n 2, 1) := by decide +kernel
theorem dX5_number_25 : decode cX5_number 25 = .ok (.invokestatic 40, 3) := by decide +kernel
theorem dX5_number_28 : decode cX5_number 28 = .ok (.ifCond .ne 7, 3) := by decide +kernel
theorem dX5_number_31 : decode cX5_number 31 = .ok (.iconst 1, 1) := by decide +kernel
theorem dX5_number_32 : decode cX5_number 32 = .ok (.goto 4, 3) := by decide +kernel
theorem dX5_number_35 : decode cX5_number 35 = .ok (.iconst 0, 1) := by decide +kernel
theorem dX5_number_36 : decode cX5_number 36 = .ok (.putfield 194, 3) := by decide +kernel
theorem dX5_number_39 : decode cX5_number 39 = .ok (.aload_n 0, 1) := by decide +kernel
theorem dX5_number_40 : decode cX5_number 40 = .ok (.getfield 194, 3) := by decide +kernel
theorem dX5_number_43 : decode cX5_number 43 = .ok (.ifCond .ne 7, 3) := by decide +kernel
theorem dX5_number_46 : decode cX5_number 46 = .ok (.aload_n 0, 1) := by decide +kernel
theorem dX5_number_47 : decode cX5_number 47 = .ok (.invokevirtual 198, 3) := by decide +kernel
theorem dX5_number_50 : decode cX5_number 50 = .ok (.iload_n 3, 1) := by decide +kernel
theorem dX5_number_51 : decode cX5_number 51 = .ok (.ireturn, 1) := by decide +kernel
theorem dX5_perhaps_0 : decode cX5_perhaps 0 = .ok (.aload_n 0, 1) := by decide +kernel
theorem dX5_perhaps_1 : decode cX5_perhaps 1 = .ok (.iload_n 1, 1) := by decide +kernel
theorem dX5_perhaps_2 : decode cX5_perhaps 2 = .ok (.invokevirtual 201, 3) := by decide +kernel
theorem dX5_perhaps_5 : decode cX5_perhaps 5 = .ok (.ifCond .eq 12, 3) := by decide +kernel
theorem dX5_perhaps_8 : decode cX5_perhaps 8 = .ok (.aload_n 0, 1) := by decide +kernel
theorem dX5_perhaps_9 : decode cX5_perhaps 9 = .ok (.iload_n 2, 1) := by decide +kernel
theorem dX5_perhaps_10 : decode cX5_perhaps 10 = .ok (.iload_n 3, 1) := by decide +kernel
theorem dX5_perhaps_11 : decode cX5_perhaps 11 = .ok (.invokevirtual 204, 3) := by decide +kernel
theorem dX5_perhaps_14 : decode cX5_perhaps 14 = .ok (.goto 5, 3) := by decide +kernel
theorem dX5_perhaps_17 : decode cX5_perhaps 17 = .ok (.iload 4, 2) := by decide +kernel
theorem dX5_perhaps_19 : decode cX5_perhaps 19 = .ok (.ireturn, 1) := by decide +kernel
theorem dX5_dishItem_0 : decode cX5_dishItem 0 = .ok (.aload_n 0, 1) := by decide +kernel
theorem dX5_dishItem_1 : decode cX5_dishItem 1 = .ok (.getfield 188, 3) := by decide +kernel
theorem dX5_dishItem_4 : decode cX5_dishItem 4 = .ok (.istore_n 1, 1) := by decide +kernel
theorem dX5_dishItem_5 : decode cX5_dishItem 5 = .ok (.aload_n 0, 1) := by decide +kernel
theorem dX5_dishItem_6 : decode cX5_dishItem 6 = .ok (.aload_n 0, 1) := by decide +kernel
theorem dX5_dishItem_7 : decode cX5_dishItem 7 = .ok (.getfield 9, 3) := by decide +kernel
theorem dX5_dishItem_10 : decode cX5_dishItem 10 = .ok (.iconst 5, 1) := by decide +kernel
theorem dX5_dishItem_11 : decode cX5_dishItem 11 = .ok (.iaload, 1) := by decide +kernel
theorem dX5_dishItem_12 : decode cX5_dishItem 12 = .ok (.bipush 8, 2) := by decide +kernel
theorem dX5_dishItem_14 : decode cX5_dishItem 14 = .ok (.if_icmp .ne 7, 3) := by decide +kernel
theorem dX5_dishItem_17 : decode cX5_dishItem 17 = .ok (.iconst 1, 1) := by decide +kernel
theorem dX5_dishItem_18 : decode cX5_dishItem 18 = .ok (.goto 4, 3) := by decide +kernel
theorem dX5_dishItem_21 : decode cX5_dishItem 21 = .ok (.iconst 0, 1) := by decide +kernel
theorem dX5_dishItem_22 : decode cX5_dishItem 22 = .ok (.putfield 194, 3) := by decide +kernel
theorem dX5_dishItem_25 : decode cX5_dishItem 25 = .ok (.aload_n 0, 1) := by decide +kernel
theorem dX5_dishItem_26 : decode cX5_dishItem 26 = .ok (.getfield 194, 3) := by decide +kernel
theorem dX5_dishItem_29 : decode cX5_dishItem 29 = .ok (.ifCond .eq 4, 3) := by decide +kernel
theorem dX5_dishItem_32 : decode cX5_dishItem 32 = .ok (.return_, 1) := by decide +kernel
theorem dX5_dishItem_33 : decode cX5_dishItem 33 = .ok (.aload_n 0, 1) := by decide +kernel
theorem dX5_dishItem_34 : decode cX5_dishItem 34 = .ok (.invokevirtual 198, 3) := by decide +kernel
theorem dX5_dishItem_37 : decode cX5_dishItem 37 = .ok (.aload_n 0, 1) := by decide +kernel
theorem dX5_dishItem_38 : decode cX5_dishItem 38 = .ok (.bipush 7, 2) := by decide +kernel
theorem dX5_dishItem_40 : decode cX5_dishItem 40 = .ok (.iconst 0, 1) := by decide +kernel
theorem dX5_dishItem_41 : decode cX5_dishItem 41 = .ok (.bipush 99, 2) := by decide +kernel
theorem dX5_dishItem_43 : decode cX5_dishItem 43 = .ok (.bipush 10, 2) := by decide +kernel
theorem dX5_dishItem_45 : decode cX5_dishItem 45 = .ok (.invokevirtual 207, 3) := by decide +kernel
theorem dX5_dishItem_48 : decode cX5_dishItem 48 = .ok (.istore_n 2, 1) := by decide +kernel
theorem dX5_dishItem_49 : decode cX5_dishItem 49 = .ok (.aload_n 0, 1) := by decide +kernel
theorem dX5_dishItem_50 : decode cX5_dishItem 50 = .ok (.bipush 8, 2) := by decide +kernel
theorem dX5_dishItem_52 : decode cX5_dishItem 52 = .ok (.iconst 0, 1) := by decide +kernel
theorem dX5_dishItem_53 : decode cX5_dishItem 53 = .ok (.bipush 99, 2) := by decide +kernel
theorem dX5_dishItem_55 : decode cX5_dishItem 55 = .ok (.bipush 10, 2) := by decide +kernel
theorem dX5_dishItem_57 : decode cX5_dishItem 57 = .ok (.invokevirtual 207, 3) := by decide +kernel
theorem dX5_dishItem_60 : decode cX5_dishItem 60 = .ok (.istore_n 3, 1) := by decide +kernel
theorem dX5_dishItem_61 : decode cX5_dishItem 61 = .ok (.aload_n 0, 1) := by decide +kernel
theorem dX5_dishItem_62 : decode cX5_dishItem 62 = .ok (.bipush 9, 2) := by decide +kernel
theorem dX5_dishItem_64 : decode cX5_dishItem 64 = .ok (.invokevirtual 201, 3) := by decide +kernel
theorem dX5_dishItem_67 : decode cX5_dishItem 67 = .ok (.ifCond .eq 7, 3) := by decide +kernel
theorem dX5_dishItem_70 : decode cX5_dishItem 70 = .ok (.iconst 1, 1) := by decide +kernel
theorem dX5_dishItem_71 : decode cX5_dishItem 71 = .ok (.goto 4, 3) := by decide +kernel
theorem dX5_dishItem_74 : decode cX5_dishItem 74 = .ok (.iconst 0, 1) := by decide +kernel
theorem dX5_dishItem_75 : decode cX5_dishItem 75 = .ok (.istore 4, 2) := by decide +kernel
theorem dX5_dishItem_77 : decode cX5_dishItem 77 = .ok (.aload_n 0, 1) := by decide +kernel
theorem dX5_dishItem_78 : decode cX5_dishItem 78 = .ok (.bipush 10, 2) := by decide +kernel
theorem dX5_dishItem_80 : decode cX5_dishItem 80 = .ok (.invokevirtual 201, 3) := by decide +kernel
theorem dX5_dishItem_83 : decode cX5_dishItem 83 = .ok (.ifCond .eq 7, 3) := by decide +kernel
theorem dX5_dishItem_86 : decode cX5_dishItem 86 = .ok (.iconst 1, 1) := by decide +kernel
theorem dX5_dishItem_87 : decode cX5_dishItem 87 = .ok (.goto 4, 3) := by decide +kernel
theorem dX5_dishItem_90 : decode cX5_dishItem 90 = .ok (.iconst 0, 1) := by decide +kernel
theorem dX5_dishItem_91 : decode cX5_dishItem 91 = .ok (.istore 5, 2) := by decide +kernel
theorem dX5_dishItem_93 : decode cX5_dishItem 93 = .ok (.aload_n 0, 1) := by decide +kernel
theorem dX5_dishItem_94 : decode cX5_dishItem 94 = .ok (.getfield 194, 3) := by decide +kernel
theorem dX5_dishItem_97 : decode cX5_dishItem 97 = .ok (.ifCond .ne 16, 3) := by decide +kernel
theorem dX5_dishItem_100 : decode cX5_dishItem 100 = .ok (.aload_n 0, 1) := by decide +kernel
theorem dX5_dishItem_101 : decode cX5_dishItem 101 = .ok (.iload_n 1, 1) := by decide +kernel
theorem dX5_dishItem_102 : decode cX5_dishItem 102 = .ok (.iload_n 2, 1) := by decide +kernel
theorem dX5_dishItem_103 : decode cX5_dishItem 103 = .ok (.iload_n 3, 1) := by decide +kernel
theorem dX5_dishItem_104 : decode cX5_dishItem 104 = .ok (.iload 4, 2) := by decide +kernel
theorem dX5_dishItem_106 : decode cX5_dishItem 106 = .ok (.iload 5, 2) := by decide +kernel
theorem dX5_dishItem_108 : decode cX5_dishItem 108 = .ok (.invokevirtual 64, 3) := by decide +kernel
theorem dX5_dishItem_111 : decode cX5_dishItem 111 = .ok (.istore 6, 2) := by decide +kernel
theorem dX5_dishItem_113 : decode cX5_dishItem 113 = .ok (.return_, 1) := by decide +kernel
theorem dX5_deedItem_0 : decode cX5_deedItem 0 = .ok (.aload_n 0, 1) := by decide +kernel
theorem dX5_deedItem_1 : decode cX5_deedItem 1 = .ok (.iconst 0, 1) := by decide +kernel
theorem dX5_deedItem_2 : decode cX5_deedItem 2 = .ok (.iconst 5, 1) := by decide +kernel
theorem dX5_deedItem_3 : decode cX5_deedItem 3 = .ok (.invokevirtual 204, 3) := by decide +kernel
theorem dX5_deedItem_6 : decode cX5_deedItem 6 = .ok (.istore_n 1, 1) := by decide +kernel
theorem dX5_deedItem_7 : decode cX5_deedItem 7 = .ok (.aload_n 0, 1) := by decide +kernel
theorem dX5_deedItem_8 : decode cX5_deedItem 8 = .ok (.iconst 0, 1) := by decide +kernel
theorem dX5_deedItem_9 : decode cX5_deedItem 9 = .ok (.bipush 11, 2) := by decide +kernel
theorem dX5_deedItem_11 : decode cX5_deedItem 11 = .ok (.invokevirtual 204, 3) := by decide +kernel
theorem dX5_deedItem_14 : decode cX5_deedItem 14 = .ok (.istore_n 2, 1) := by decide +kernel
theorem dX5_deedItem_15 : decode cX5_deedItem 15 = .ok (.aload_n 0, 1) := by decide +kernel
theorem dX5_deedItem_16 : decode cX5_deedItem 16 = .ok (.getfield 194, 3) := by decide +kernel
theorem dX5_deedItem_19 : decode cX5_deedItem 19 = .ok (.ifCond .ne 13, 3) := by decide +kernel
theorem dX5_deedItem_22 : decode cX5_deedItem 22 = .ok (.aload_n 0, 1) := by decide +kernel
theorem dX5_deedItem_23 : decode cX5_deedItem 23 = .ok (.getfield 9, 3) := by decide +kernel
theorem dX5_deedItem_26 : decode cX5_deedItem 26 = .ok (.bipush 6, 2) := by decide +kernel
theorem dX5_deedItem_28 : decode cX5_deedItem 28 = .ok (.iload_n 1, 1) := by decide +kernel
theorem dX5_deedItem_29 : decode cX5_deedItem 29 = .ok (.iadd, 1) := by decide +kernel
theorem dX5_deedItem_30 : decode cX5_deedItem 30 = .ok (.iload_n 2, 1) := by decide +kernel
theorem dX5_deedItem_31 : decode cX5_deedItem 31 = .ok (.iastore, 1) := by decide +kernel
theorem dX5_deedItem_32 : decode cX5_deedItem 32 = .ok (.return_, 1) := by decide +kernel
theorem dX5_item_0 : decode cX5_item 0 = .ok (.aload_n 0, 1) := by decide +kernel
theorem dX5_item_1 : decode cX5_item 1 = .ok (.getfield 188, 3) := by decide +kernel
theorem dX5_item_4 : decode cX5_item 4 = .ok (.bipush 6, 2) := by decide +kernel
theorem dX5_item_6 : decode cX5_item 6 = .ok (.if_icmp .gt 10, 3) := by decide +kernel
theorem dX5_item_9 : decode cX5_item 9 = .ok (.aload_n 0, 1) := by decide +kernel
theorem dX5_item_10 : decode cX5_item 10 = .ok (.invokevirtual 211, 3) := by decide +kernel
theorem dX5_item_13 : decode cX5_item 13 = .ok (.goto 74, 3) := by decide +kernel
theorem dX5_item_16 : decode cX5_item 16 = .ok (.aload_n 0, 1) := by decide +kernel
theorem dX5_item_17 : decode cX5_item 17 = .ok (.bipush 11, 2) := by decide +kernel
theorem dX5_item_19 : decode cX5_item 19 = .ok (.invokevirtual 201, 3) := by decide +kernel
theorem dX5_item_22 : decode cX5_item 22 = .ok (.ifCond .eq 10, 3) := by decide +kernel
theorem dX5_item_25 : decode cX5_item 25 = .ok (.aload_n 0, 1) := by decide +kernel
theorem dX5_item_26 : decode cX5_item 26 = .ok (.invokevirtual 214, 3) := by decide +kernel
theorem dX5_item_29 : decode cX5_item 29 = .ok (.goto 58, 3) := by decide +kernel
theorem dX5_item_32 : decode cX5_item 32 = .ok (.aload_n 0, 1) := by decide +kernel
theorem dX5_item_33 : decode cX5_item 33 = .ok (.bipush 12, 2) := by decide +kernel
theorem dX5_item_35 : decode cX5_item 35 = .ok (.invokevirtual 201, 3) := by decide +kernel
theorem dX5_item_38 : decode cX5_item 38 = .ok (.ifCond .eq 19, 3) := by decide +kernel
theorem dX5_item_41 : decode cX5_item 41 = .ok (.aload_n 0, 1) := by decide +kernel
theorem dX5_item_42 : decode cX5_item 42 = .ok (.getfield 9, 3) := by decide +kernel
theorem dX5_item_45 : decode cX5_item 45 = .ok (.iconst 1, 1) := by decide +kernel
theorem dX5_item_46 : decode cX5_item 46 = .ok (.aload_n 0, 1) := by decide +kernel
theorem dX5_item_47 : decode cX5_item 47 = .ok (.iconst 0, 1) := by decide +kernel
theorem dX5_item_48 : decode cX5_item 48 = .ok (.bipush 99, 2) := by decide +kernel
theorem dX5_item_50 : decode cX5_item 50 = .ok (.invokevirtual 204, 3) := by decide +kernel
theorem dX5_item_53 : decode cX5_item 53 = .ok (.iastore, 1) := by decide +kernel
theorem dX5_item_54 : decode cX5_item 54 = .ok (.goto 33, 3) := by decide +kernel
theorem dX5_item_57 : decode cX5_item 57 = .ok (.aload_n 0, 1) := by decide +kernel
theorem dX5_item_58 : decode cX5_item 58 = .ok (.bipush 13, 2) := by decide +kernel
theorem dX5_item_60 : decode cX5_item 60 = .ok (.invokevirtual 201, 3) := by decide +kernel
theorem dX5_item_63 : decode cX5_item 63 = .ok (.ifCond .eq 19, 3) := by decide +kernel
theorem dX5_item_66 : decode cX5_item 66 = .ok (.aload_n 0, 1) := by decide +kernel
theorem dX5_item_67 : decode cX5_item 67 = .ok (.getfield 9, 3) := by decide +kernel
theorem dX5_item_70 : decode cX5_item 70 = .ok (.iconst 2, 1) := by decide +kernel
theorem dX5_item_71 : decode cX5_item 71 = .ok (.aload_n 0, 1) := by decide +kernel
theorem dX5_item_72 : decode cX5_item 72 = .ok (.iconst 0, 1) := by decide +kernel
theorem dX5_item_73 : decode cX5_item 73 = .ok (.bipush 9, 2) := by decide +kernel
theorem dX5_item_75 : decode cX5_item 75 = .ok (.invokevirtual 204, 3) := by decide +kernel
theorem dX5_item_78 : decode cX5_item 78 = .ok (.iastore, 1) := by decide +kernel
theorem dX5_item_79 : decode cX5_item 79 = .ok (.goto 8, 3) := by decide +kernel
theorem dX5_item_82 : decode cX5_item 82 = .ok (.aload_n 0, 1) := by decide +kernel
theorem dX5_item_83 : decode cX5_item 83 = .ok (.iconst 1, 1) := by decide +kernel
theorem dX5_item_84 : decode cX5_item 84 = .ok (.putfield 194, 3) := by decide +kernel
theorem dX5_item_87 : decode cX5_item 87 = .ok (.return_, 1) := by decide +kernel
theorem dX5_text_0 : decode cX5_text 0 = .ok (.aload_n 0, 1) := by decide +kernel
theorem dX5_text_1 : decode cX5_text 1 = .ok (.invokevirtual 133, 3) := by decide +kernel
theorem dX5_text_4 : decode cX5_text 4 = .ok (.aload_n 0, 1) := by decide +kernel
theorem dX5_text_5 : decode cX5_text 5 = .ok (.iconst 0, 1) := by decide +kernel
theorem dX5_text_6 : decode cX5_text 6 = .ok (.putfield 176, 3) := by decide +kernel
theorem dX5_text_9 : decode cX5_text 9 = .ok (.aload_n 0, 1) := by decide +kernel
theorem dX5_text_10 : decode cX5_text 10 = .ok (.iconst 0, 1) := by decide +kernel
theorem dX5_text_11 : decode cX5_text 11 = .ok (.putfield 194, 3) := by decide +kernel
theorem dX5_text_14 : decode cX5_text 14 = .ok (.aload_n 0, 1) := by decide +kernel
theorem dX5_text_15 : decode cX5_text 15 = .ok (.invokevirtual 198, 3) := by decide +kernel
theorem dX5_text_18 : decode cX5_text 18 = .ok (.aload_n 0, 1) := by decide +kernel
theorem dX5_text_19 : decode cX5_text 19 = .ok (.invokevirtual 217, 3) := by decide +kernel
theorem dX5_text_22 : decode cX5_text 22 = .ok (.iconst 1, 1) := by decide +kernel
theorem dX5_text_23 : decode cX5_text 23 = .ok (.istore_n 1, 1) := by decide +kernel
theorem dX5_text_24 : decode cX5_text 24 = .ok (.aload_n 0, 1) := by decide +kernel
theorem dX5_text_25 : decode cX5_text 25 = .ok (.bipush 21, 2) := by decide +kernel
theorem dX5_text_27 : decode cX5_text 27 = .ok (.invokevirtual 201, 3) := by decide +kernel
theorem dX5_text_30 : decode cX5_text 30 = .ok (.ifCond .eq 13, 3) := by decide +kernel
theorem dX5_text_33 : decode cX5_text 33 = .ok (.aload_n 0, 1) := by decide +kernel
theorem dX5_text_34 : decode cX5_text 34 = .ok (.invokevirtual 217, 3) := by decide +kernel
theorem dX5_text_37 : decode cX5_text 37 = .ok (.iinc 1 1, 3) := by decide +kernel
theorem dX5_text_40 : decode cX5_text 40 = .ok (.goto (-16), 3) := by decide +kernel
theorem dX5_text_43 : decode cX5_text 43 = .ok (.aload_n 0, 1) := by decide +kernel
theorem dX5_text_44 : decode cX5_text 44 = .ok (.aload_n 0, 1) := by decide +kernel
theorem dX5_text_45 : decode cX5_text 45 = .ok (.getfield 194, 3) := by decide +kernel
theorem dX5_text_48 : decode cX5_text 48 = .ok (.ifCond .ne 12, 3) := by decide +kernel
theorem dX5_text_51 : decode cX5_text 51 = .ok (.aload_n 0, 1) := by decide +kernel
theorem dX5_text_52 : decode cX5_text 52 = .ok (.getfield 188, 3) := by decide +kernel
theorem dX5_text_55 : decode cX5_text 55 = .ok (.bipush 22, 2) := by decide +kernel
theorem dX5_text_57 : decode cX5_text 57 = .ok (.if_icmp .eq 7, 3) := by decide +kernel
theorem dX5_text_60 : decode cX5_text 60 = .ok (.iconst 1, 1) := by decide +kernel
theorem dX5_text_61 : decode cX5_text 61 = .ok (.goto 4, 3) := by decide +kernel
theorem dX5_text_64 : decode cX5_text 64 = .ok (.iconst 0, 1) := by decide +kernel
theorem dX5_text_65 : decode cX5_text 65 = .ok (.putfield 194, 3) := by decide +kernel
theorem dX5_text_68 : decode cX5_text 68 = .ok (.aload_n 0, 1) := by decide +kernel
theorem dX5_text_69 : decode cX5_text 69 = .ok (.iconst 0, 1) := by decide +kernel
theorem dX5_text_70 : decode cX5_text 70 = .ok (.putfield 166, 3) := by decide +kernel
theorem dX5_text_73 : decode cX5_text 73 = .ok (.aload_n 0, 1) := by decide +kernel
theorem dX5_text_74 : decode cX5_text 74 = .ok (.getfield 194, 3) := by decide +kernel
theorem dX5_text_77 : decode cX5_text 77 = .ok (.ifCond .ne 5, 3) := by decide +kernel
theorem dX5_text_80 : decode cX5_text 80 = .ok (.iload_n 1, 1) := by decide +kernel
theorem dX5_text_81 : decode cX5_text 81 = .ok (.ireturn, 1) := by decide +kernel
theorem dX5_text_82 : decode cX5_text 82 = .ok (.aload_n 0, 1) := by decide +kernel
theorem dX5_text_83 : decode cX5_text 83 = .ok (.invokevirtual 136, 3) := by decide +kernel
theorem dX5_text_86 : decode cX5_text 86 = .ok (.iconst (-1), 1) := by decide +kernel
theorem dX5_text_87 : decode cX5_text 87 = .ok (.aload_n 0, 1) := by decide +kernel
theorem dX5_text_88 : decode cX5_text 88 = .ok (.getfield 173, 3) := by decide +kernel
theorem dX5_text_91 : decode cX5_text 91 = .ok (.isub, 1) := by decide +kernel
theorem dX5_text_92 : decode cX5_text 92 = .ok (.ireturn, 1) := by decide +kernel
theorem dX5_hold_0 : decode cX5_hold 0 = .ok (.iload_n 1, 1) := by decide +kernel
theorem dX5_hold_1 : decode cX5_hold 1 = .ok (.iconst 0, 1) := by decide +kernel
theorem dX5_hold_2 : decode cX5_hold 2 = .ok (.bipush 9, 2) := by decide +kernel
theorem dX5_hold_4 : decode cX5_hold 4 = .ok (.invokestatic 40, 3) := by decide +kernel
theorem dX5_hold_7 : decode cX5_hold 7 = .ok (.ifCond .eq 16, 3) := by decide +kernel
theorem dX5_hold_10 : decode cX5_hold 10 = .ok (.iload_n 2, 1) := by decide +kernel
theorem dX5_hold_11 : decode cX5_hold 11 = .ok (.iconst (-1), 1) := by decide +kernel
theorem dX5_hold_12 : decode cX5_hold 12 = .ok (.if_icmp .eq 18, 3) := by decide +kernel
theorem dX5_hold_15 : decode cX5_hold 15 = .ok (.aload_n 0, 1) := by decide +kernel
theorem dX5_hold_16 : decode cX5_hold 16 = .ok (.iload_n 2, 1) := by decide +kernel
theorem dX5_hold_17 : decode cX5_hold 17 = .ok (.invokevirtual 68, 3) := by decide +kernel
theorem dX5_hold_20 : decode cX5_hold 20 = .ok (.ifCond .ne 10, 3) := by decide +kernel
theorem dX5_hold_23 : decode cX5_hold 23 = .ok (.aload_n 0, 1) := by decide +kernel
theorem dX5_hold_24 : decode cX5_hold 24 = .ok (.ldc 34, 2) := by decide +kernel
theorem dX5_hold_26 : decode cX5_hold 26 = .ok (.invokevirtual 36, 3) := by decide +kernel
theorem dX5_hold_29 : decode cX5_hold 29 = .ok (.ireturn, 1) := by decide +kernel
theorem dX5_hold_30 : decode cX5_hold 30 = .ok (.aload_n 0, 1) := by decide +kernel
theorem dX5_hold_31 : decode cX5_hold 31 = .ok (.getfield 9, 3) := by decide +kernel
theorem dX5_hold_34 : decode cX5_hold 34 = .ok (.bipush 60, 2) := by decide +kernel
theorem dX5_hold_36 : decode cX5_hold 36 = .ok (.iload_n 1, 1) := by decide +kernel
theorem dX5_hold_37 : decode cX5_hold 37 = .ok (.iadd, 1) := by decide +kernel
theorem dX5_hold_38 : decode cX5_hold 38 = .ok (.iload_n 2, 1) := by decide +kernel
theorem dX5_hold_39 : decode cX5_hold 39 = .ok (.iastore, 1) := by decide +kernel
theorem dX5_hold_40 : decode cX5_hold 40 = .ok (.iconst 1, 1) := by decide +kernel
theorem dX5_hold_41 : decode cX5_hold 41 = .ok (.ireturn, 1) := by decide +kernel
theorem dX5_isUnder_0 : decode cX5_isUnder 0 = .ok (.iload_n 0, 1) := by decide +kernel
theorem dX5_isUnder_1 : decode cX5_isUnder 1 = .ok (.iconst 3, 1) := by decide +kernel
theorem dX5_isUnder_2 : decode cX5_isUnder 2 = .ok (.if_icmp .eq 8, 3) := by decide +kernel
theorem dX5_isUnder_5 : decode cX5_isUnder 5 = .ok (.iload_n 0, 1) := by decide +kernel
theorem dX5_isUnder_6 : decode cX5_isUnder 6 = .ok (.iconst 4, 1) := by decide +kernel
theorem dX5_isUnder_7 : decode cX5_isUnder 7 = .ok (.if_icmp .ne 7, 3) := by decide +kernel
theorem dX5_isUnder_10 : decode cX5_isUnder 10 = .ok (.iconst 1, 1) := by decide +kernel
theorem dX5_isUnder_11 : decode cX5_isUnder 11 = .ok (.goto 4, 3) := by decide +kernel
theorem dX5_isUnder_14 : decode cX5_isUnder 14 = .ok (.iconst 0, 1) := by decide +kernel
theorem dX5_isUnder_15 : decode cX5_isUnder 15 = .ok (.istore_n 2, 1) := by decide +kernel
theorem dX5_isUnder_16 : decode cX5_isUnder 16 = .ok (.iload_n 1, 1) := by decide +kernel
theorem dX5_isUnder_17 : decode cX5_isUnder 17 = .ok (.ifCond .eq 38, 3) := by decide +kernel
theorem dX5_isUnder_20 : decode cX5_isUnder 20 = .ok (.iload_n 1, 1) := by decide +kernel
theorem dX5_isUnder_21 : decode cX5_isUnder 21 = .ok (.iload_n 0, 1) := by decide +kernel
theorem dX5_isUnder_22 : decode cX5_isUnder 22 = .ok (.if_icmp .eq 33, 3) := by decide +kernel
theorem dX5_isUnder_25 : decode cX5_isUnder 25 = .ok (.iload_n 1, 1) := by decide +kernel
theorem dX5_isUnder_26 : decode cX5_isUnder 26 = .ok (.iconst 1, 1) := by decide +kernel
theorem dX5_isUnder_27 : decode cX5_isUnder 27 = .ok (.if_icmp .ne 9, 3) := by decide +kernel
theorem dX5_isUnder_30 : decode cX5_isUnder 30 = .ok (.iload_n 0, 1) := by decide +kernel
theorem dX5_isUnder_31 : decode cX5_isUnder 31 = .ok (.bipush 6, 2) := by decide +kernel
theorem dX5_isUnder_33 : decode cX5_isUnder 33 = .ok (.if_icmp .eq 22, 3) := by decide +kernel
theorem dX5_isUnder_36 : decode cX5_isUnder 36 = .ok (.iload_n 1, 1) := by decide +kernel
theorem dX5_isUnder_37 : decode cX5_isUnder 37 = .ok (.iconst 2, 1) := by decide +kernel
theorem dX5_isUnder_38 : decode cX5_isUnder 38 = .ok (.if_icmp .ne 7, 3) := by decide +kernel
theorem dX5_isUnder_41 : decode cX5_isUnder 41 = .ok (.iload_n 2, 1) := by decide +kernel
theorem dX5_isUnder_42 : decode cX5_isUnder 42 = .ok (.ifCond .ne 13, 3) := by decide +kernel
theorem dX5_isUnder_45 : decode cX5_isUnder 45 = .ok (.iload_n 1, 1) := by decide +kernel
theorem dX5_isUnder_46 : decode cX5_isUnder 46 = .ok (.iconst 3, 1) := by decide +kernel
theorem dX5_isUnder_47 : decode cX5_isUnder 47 = .ok (.if_icmp .ne 12, 3) := by decide +kernel
theorem dX5_isUnder_50 : decode cX5_isUnder 50 = .ok (.iload_n 0, 1) := by decide +kernel
theorem dX5_isUnder_51 : decode cX5_isUnder 51 = .ok (.iconst 4, 1) := by decide +kernel
theorem dX5_isUnder_52 : decode cX5_isUnder 52 = .ok (.if_icmp .ne 7, 3) := by decide +kernel
theorem dX5_isUnder_55 : decode cX5_isUnder 55 = .ok (.iconst 1, 1) := by decide +kernel
theorem dX5_isUnder_56 : decode cX5_isUnder 56 = .ok (.goto 4, 3) := by decide +kernel
theorem dX5_isUnder_59 : decode cX5_isUnder 59 = .ok (.iconst 0, 1) := by decide +kernel
theorem dX5_isUnder_60 : decode cX5_isUnder 60 = .ok (.ireturn, 1) := by decide +kernel
theorem dX5_as_0 : decode cX5_as 0 = .ok (.iload_n 1, 1) := by decide +kernel
theorem dX5_as_1 : decode cX5_as 1 = .ok (.iconst 0, 1) := by decide +kernel
theorem dX5_as_2 : decode cX5_as 2 = .ok (.bipush 9, 2) := by decide +kernel
theorem dX5_as_4 : decode cX5_as 4 = .ok (.invokestatic 40, 3) := by decide +kernel
theorem dX5_as_7 : decode cX5_as 7 = .ok (.ifCond .eq 13, 3) := by decide +kernel
theorem dX5_as_10 : decode cX5_as 10 = .ok (.iload_n 2, 1) := by decide +kernel
theorem dX5_as_11 : decode cX5_as 11 = .ok (.iconst 0, 1) := by decide +kernel
theorem dX5_as_12 : decode cX5_as 12 = .ok (.bipush 6, 2) := by decide +kernel
theorem dX5_as_14 : decode cX5_as 14 = .ok (.invokestatic 40, 3) := by decide +kernel
theorem dX5_as_17 : decode cX5_as 17 = .ok (.ifCond .ne 10, 3) := by decide +kernel
theorem dX5_as_20 : decode cX5_as 20 = .ok (.aload_n 0, 1) := by decide +kernel
theorem dX5_as_21 : decode cX5_as 21 = .ok (.ldc 34, 2) := by decide +kernel
theorem dX5_as_23 : decode cX5_as 23 = .ok (.invokevirtual 36, 3) := by decide +kernel
theorem dX5_as_26 : decode cX5_as 26 = .ok (.ireturn, 1) := by decide +kernel
theorem dX5_as_27 : decode cX5_as 27 = .ok (.aload_n 0, 1) := by decide +kernel
theorem dX5_as_28 : decode cX5_as 28 = .ok (.getfield 9, 3) := by decide +kernel
theorem dX5_as_31 : decode cX5_as 31 = .ok (.bipush 60, 2) := by decide +kernel
theorem dX5_as_33 : decode cX5_as 33 = .ok (.iload_n 1, 1) := by decide +kernel
theorem dX5_as_34 : decode cX5_as 34 = .ok (.iadd, 1) := by decide +kernel
theorem dX5_as_35 : decode cX5_as 35 = .ok (.iaload, 1) := by decide +kernel
theorem dX5_as_36 : decode cX5_as 36 = .ok (.istore_n 3, 1) := by decide +kernel
theorem dX5_as_37 : decode cX5_as 37 = .ok (.iload_n 3, 1) := by decide +kernel
theorem dX5_as_38 : decode cX5_as 38 = .ok (.ifCond .ge 10, 3) := by decide +kernel
theorem dX5_as_41 : decode cX5_as 41 = .ok (.aload_n 0, 1) := by decide +kernel
theorem dX5_as_42 : decode cX5_as 42 = .ok (.ldc 152, 2) := by decide +kernel
theorem dX5_as_44 : decode cX5_as 44 = .ok (.invokevirtual 36, 3) := by decide +kernel
theorem dX5_as_47 : decode cX5_as 47 = .ok (.ireturn, 1) := by decide +kernel
theorem dX5_as_48 : decode cX5_as 48 = .ok (.aload_n 0, 1) := by decide +kernel
theorem dX5_as_49 : decode cX5_as 49 = .ok (.iload_n 3, 1) := by decide +kernel
theorem dX5_as_50 : decode cX5_as 50 = .ok (.iconst 0, 1) := by decide +kernel
theorem dX5_as_51 : decode cX5_as 51 = .ok (.invokevirtual 44, 3) := by decide +kernel
theorem dX5_as_54 : decode cX5_as 54 = .ok (.iload_n 2, 1) := by decide +kernel
theorem dX5_as_55 : decode cX5_as 55 = .ok (.invokestatic 220, 3) := by decide +kernel
theorem dX5_as_58 : decode cX5_as 58 = .ok (.ifCond .eq 7, 3) := by decide +kernel
theorem dX5_as_61 : decode cX5_as 61 = .ok (.iload_n 3, 1) := by decide +kernel
theorem dX5_as_62 : decode cX5_as 62 = .ok (.goto 9, 3) := by decide +kernel
theorem dX5_as_65 : decode cX5_as 65 = .ok (.aload_n 0, 1) := by decide +kernel
theorem dX5_as_66 : decode cX5_as 66 = .ok (.ldc 223, 2) := by decide +kernel
theorem dX5_as_68 : decode cX5_as 68 = .ok (.invokevirtual 36, 3) := by decide +kernel
theorem dX5_as_71 : decode cX5_as 71 = .ok (.ireturn, 1) := by decide +kernel
theorem dX5_sheet_0 : decode cX5_sheet 0 = .ok (.iload_n 1, 1) := by decide +kernel
theorem dX5_sheet_1 : decode cX5_sheet 1 = .ok (.invokestatic 149, 3) := by decide +kernel
theorem dX5_sheet_4 : decode cX5_sheet 4 = .ok (.ifCond .eq 25, 3) := by decide +kernel
theorem dX5_sheet_7 : decode cX5_sheet 7 = .ok (.iload_n 2, 1) := by decide +kernel
theorem dX5_sheet_8 : decode cX5_sheet 8 = .ok (.ifCond .eq 28, 3) := by decide +kernel
theorem dX5_sheet_11 : decode cX5_sheet 11 = .ok (.iload_n 2, 1) := by decide +kernel
theorem dX5_sheet_12 : decode cX5_sheet 12 = .ok (.bipush 8, 2) := by decide +kernel
theorem dX5_sheet_14 : decode cX5_sheet 14 = .ok (.if_icmp .eq 22, 3) := by decide +kernel
theorem dX5_sheet_17 : decode cX5_sheet 17 = .ok (.iload_n 2, 1) := by decide +kernel
theorem dX5_sheet_18 : decode cX5_sheet 18 = .ok (.bipush 16, 2) := by decide +kernel
theorem dX5_sheet_20 : decode cX5_sheet 20 = .ok (.if_icmp .eq 16, 3) := by decide +kernel
theorem dX5_sheet_23 : decode cX5_sheet 23 = .ok (.iload_n 2, 1) := by decide +kernel
theorem dX5_sheet_24 : decode cX5_sheet 24 = .ok (.bipush 32, 2) := by decide +kernel
theorem dX5_sheet_26 : decode cX5_sheet 26 = .ok (.if_icmp .eq 10, 3) := by decide +kernel
theorem dX5_sheet_29 : decode cX5_sheet 29 = .ok (.aload_n 0, 1) := by decide +kernel
theorem dX5_sheet_30 : decode cX5_sheet 30 = .ok (.ldc 34, 2) := by decide +kernel
theorem dX5_sheet_32 : decode cX5_sheet 32 = .ok (.invokevirtual 36, 3) := by decide +kernel
theorem dX5_sheet_35 : decode cX5_sheet 35 = .ok (.ireturn, 1) := by decide +kernel
theorem dX5_sheet_36 : decode cX5_sheet 36 = .ok (.iload_n 3, 1) := by decide +kernel
theorem dX5_sheet_37 : decode cX5_sheet 37 = .ok (.ifCond .ge 10, 3) := by decide +kernel
theorem dX5_sheet_40 : decode cX5_sheet 40 = .ok (.aload_n 0, 1) := by decide +kernel
theorem dX5_sheet_41 : decode cX5_sheet 41 = .ok (.ldc 224, 2) := by decide +kernel
theorem dX5_sheet_43 : decode cX5_sheet 43 = .ok (.invokevirtual 36, 3) := by decide +kernel
theorem dX5_sheet_46 : decode cX5_sheet 46 = .ok (.ireturn, 1) := by decide +kernel
theorem dX5_sheet_47 : decode cX5_sheet 47 = .ok (.iload_n 3, 1) := by decide +kernel
theorem dX5_sheet_48 : decode cX5_sheet 48 = .ok (.bipush 40, 2) := by decide +kernel
theorem dX5_sheet_50 : decode cX5_sheet 50 = .ok (.if_icmp .le 10, 3) := by decide +kernel
theorem dX5_sheet_53 : decode cX5_sheet 53 = .ok (.aload_n 0, 1) := by decide +kernel
theorem dX5_sheet_54 : decode cX5_sheet 54 = .ok (.ldc 34, 2) := by decide +kernel
theorem dX5_sheet_56 : decode cX5_sheet 56 = .ok (.invokevirtual 36, 3) := by decide +kernel
theorem dX5_sheet_59 : decode cX5_sheet 59 = .ok (.ireturn, 1) := by decide +kernel
theorem dX5_sheet_60 : decode cX5_sheet 60 = .ok (.aload_n 0, 1) := by decide +kernel
theorem dX5_sheet_61 : decode cX5_sheet 61 = .ok (.getfield 22, 3) := by decide +kernel
theorem dX5_sheet_64 : decode cX5_sheet 64 = .ok (.iload_n 1, 1) := by decide +kernel
theorem dX5_sheet_65 : decode cX5_sheet 65 = .ok (.iload_n 2, 1) := by decide +kernel
theorem dX5_sheet_66 : decode cX5_sheet 66 = .ok (.iastore, 1) := by decide +kernel
theorem dX5_sheet_67 : decode cX5_sheet 67 = .ok (.aload_n 0, 1) := by decide +kernel
theorem dX5_sheet_68 : decode cX5_sheet 68 = .ok (.getfield 25, 3) := by decide +kernel
theorem dX5_sheet_71 : decode cX5_sheet 71 = .ok (.iload_n 1, 1) := by decide +kernel
theorem dX5_sheet_72 : decode cX5_sheet 72 = .ok (.iload_n 2, 1) := by decide +kernel
theorem dX5_sheet_73 : decode cX5_sheet 73 = .ok (.ifCond .ne 7, 3) := by decide +kernel
theorem dX5_sheet_76 : decode cX5_sheet 76 = .ok (.iconst 0, 1) := by decide +kernel
theorem dX5_sheet_77 : decode cX5_sheet 77 = .ok (.goto 4, 3) := by decide +kernel
theorem dX5_sheet_80 : decode cX5_sheet 80 = .ok (.iload_n 3, 1) := by decide +kernel
theorem dX5_sheet_81 : decode cX5_sheet 81 = .ok (.iastore, 1) := by decide +kernel
theorem dX5_sheet_82 : decode cX5_sheet 82 = .ok (.iconst 0, 1) := by decide +kernel
theorem dX5_sheet_83 : decode cX5_sheet 83 = .ok (.istore 4, 2) := by decide +kernel
theorem dX5_sheet_85 : decode cX5_sheet 85 = .ok (.iload 4, 2) := by decide +kernel
theorem dX5_sheet_87 : decode cX5_sheet 87 = .ok (.bipush 40, 2) := by decide +kernel
theorem dX5_sheet_89 : decode cX5_sheet 89 = .ok (.if_icmp .ge 22, 3) := by decide +kernel
theorem dX5_sheet_92 : decode cX5_sheet 92 = .ok (.aload_n 0, 1) := by decide +kernel
theorem dX5_sheet_93 : decode cX5_sheet 93 = .ok (.getfield 28, 3) := by decide +kernel
theorem dX5_sheet_96 : decode cX5_sheet 96 = .ok (.bipush 40, 2) := by decide +kernel
theorem dX5_sheet_98 : decode cX5_sheet 98 = .ok (.iload_n 1, 1) := by decide +kernel
theorem dX5_sheet_99 : decode cX5_sheet 99 = .ok (.imul, 1) := by decide +kernel
theorem dX5_sheet_100 : decode cX5_sheet 100 = .ok (.iload 4, 2) := by decide +kernel
theorem dX5_sheet_102 : decode cX5_sheet 102 = .ok (.iadd, 1) := by decide +kernel
theorem dX5_sheet_103 : decode cX5_sheet 103 = .ok (.iconst 0, 1) := by decide +kernel
theorem dX5_sheet_104 : decode cX5_sheet 104 = .ok (.iastore, 1) := by decide +kernel
theorem dX5_sheet_105 : decode cX5_sheet 105 = .ok (.iinc 4 1, 3) := by decide +kernel
theorem dX5_sheet_108 : decode cX5_sheet 108 = .ok (.goto (-23), 3) := by decide +kernel
theorem dX5_sheet_111 : decode cX5_sheet 111 = .ok (.aload_n 0, 1) := by decide +kernel
theorem dX5_sheet_112 : decode cX5_sheet 112 = .ok (.getfield 25, 3) := by decide +kernel
theorem dX5_sheet_115 : decode cX5_sheet 115 = .ok (.iload_n 1, 1) := by decide +kernel
theorem dX5_sheet_116 : decode cX5_sheet 116 = .ok (.iaload, 1) := by decide +kernel
theorem dX5_sheet_117 : decode cX5_sheet 117 = .ok (.ireturn, 1) := by decide +kernel
theorem dX5_write_0 : decode cX5_write 0 = .ok (.aload_n 0, 1) := by decide +kernel
theorem dX5_write_1 : decode cX5_write 1 = .ok (.iload_n 1, 1) := by decide +kernel
theorem dX5_write_2 : decode cX5_write 2 = .ok (.invokevirtual 153, 3) := by decide +kernel
theorem dX5_write_5 : decode cX5_write 5 = .ok (.istore 4, 2) := by decide +kernel
theorem dX5_write_7 : decode cX5_write 7 = .ok (.iload 4, 2) := by decide +kernel
theorem dX5_write_9 : decode cX5_write 9 = .ok (.ifCond .ne 24, 3) := by decide +kernel
theorem dX5_write_12 : decode cX5_write 12 = .ok (.iload_n 2, 1) := by decide +kernel
theorem dX5_write_13 : decode cX5_write 13 = .ok (.iconst 0, 1) := by decide +kernel
theorem dX5_write_14 : decode cX5_write 14 = .ok (.aload_n 0, 1) := by decide +kernel
theorem dX5_write_15 : decode cX5_write 15 = .ok (.getfield 25, 3) := by decide +kernel
theorem dX5_write_18 : decode cX5_write 18 = .ok (.iload_n 1, 1) := by decide +kernel
theorem dX5_write_19 : decode cX5_write 19 = .ok (.iaload, 1) := by decide +kernel
theorem dX5_write_20 : decode cX5_write 20 = .ok (.iconst 1, 1) := by decide +kernel
theorem dX5_write_21 : decode cX5_write 21 = .ok (.isub, 1) := by decide +kernel
theorem dX5_write_22 : decode cX5_write 22 = .ok (.invokestatic 40, 3) := by decide +kernel
theorem dX5_write_25 : decode cX5_write 25 = .ok (.ifCond .ne 8, 3) := by decide +kernel
theorem dX5_write_28 : decode cX5_write 28 = .ok (.ldc 34, 2) := by decide +kernel
theorem dX5_write_30 : decode cX5_write 30 = .ok (.goto 5, 3) := by decide +kernel
theorem dX5_write_33 : decode cX5_write 33 = .ok (.iload 4, 2) := by decide +kernel
theorem dX5_write_35 : decode cX5_write 35 = .ok (.istore 4, 2) := by decide +kernel
theorem dX5_write_37 : decode cX5_write 37 = .ok (.iload 4, 2) := by decide +kernel
theorem dX5_write_39 : decode cX5_write 39 = .ok (.ifCond .eq 10, 3) := by decide +kernel
theorem dX5_write_42 : decode cX5_write 42 = .ok (.aload_n 0, 1) := by decide +kernel
theorem dX5_write_43 : decode cX5_write 43 = .ok (.iload 4, 2) := by decide +kernel
theorem dX5_write_45 : decode cX5_write 45 = .ok (.invokevirtual 36, 3) := by decide +kernel
theorem dX5_write_48 : decode cX5_write 48 = .ok (.ireturn, 1) := by decide +kernel
theorem dX5_write_49 : decode cX5_write 49 = .ok (.aload_n 0, 1) := by decide +kernel
theorem dX5_write_50 : decode cX5_write 50 = .ok (.getfield 28, 3) := by decide +kernel
theorem dX5_write_53 : decode cX5_write 53 = .ok (.bipush 40, 2) := by decide +kernel
theorem dX5_write_55 : decode cX5_write 55 = .ok (.iload_n 1, 1) := by decide +kernel
theorem dX5_write_56 : decode cX5_write 56 = .ok (.imul, 1) := by decide +kernel
theorem dX5_write_57 : decode cX5_write 57 = .ok (.iload_n 2, 1) := by decide +kernel
theorem dX5_write_58 : decode cX5_write 58 = .ok (.iadd, 1) := by decide +kernel
theorem dX5_write_59 : decode cX5_write 59 = .ok (.aload_n 0, 1) := by decide +kernel
theorem dX5_write_60 : decode cX5_write 60 = .ok (.getfield 22, 3) := by decide +kernel
theorem dX5_write_63 : decode cX5_write 63 = .ok (.iload_n 1, 1) := by decide +kernel
theorem dX5_write_64 : decode cX5_write 64 = .ok (.iaload, 1) := by decide +kernel
theorem dX5_write_65 : decode cX5_write 65 = .ok (.bipush 8, 2) := by decide +kernel
theorem dX5_write_67 : decode cX5_write 67 = .ok (.if_icmp .ne 8, 3) := by decide +kernel
theorem dX5_write_70 : decode cX5_write 70 = .ok (.iload_n 3, 1) := by decide +kernel
theorem dX5_write_71 : decode cX5_write 71 = .ok (.i2b, 1) := by decide +kernel
theorem dX5_write_72 : decode cX5_write 72 = .ok (.goto 20, 3) := by decide +kernel
theorem dX5_write_75 : decode cX5_write 75 = .ok (.aload_n 0, 1) := by decide +kernel
theorem dX5_write_76 : decode cX5_write 76 = .ok (.getfield 22, 3) := by decide +kernel
theorem dX5_write_79 : decode cX5_write 79 = .ok (.iload_n 1, 1) := by decide +kernel
theorem dX5_write_80 : decode cX5_write 80 = .ok (.iaload, 1) := by decide +kernel
theorem dX5_write_81 : decode cX5_write 81 = .ok (.bipush 16, 2) := by decide +kernel
theorem dX5_write_83 : decode cX5_write 83 = .ok (.if_icmp .ne 8, 3) := by decide +kernel
theorem dX5_write_86 : decode cX5_write 86 = .ok (.iload_n 3, 1) := by decide +kernel
theorem dX5_write_87 : decode cX5_write 87 = .ok (.i2s, 1) := by decide +kernel
theorem dX5_write_88 : decode cX5_write 88 = .ok (.goto 4, 3) := by decide +kernel
theorem dX5_write_91 : decode cX5_write 91 = .ok (.iload_n 3, 1) := by decide +kernel
theorem dX5_write_92 : decode cX5_write 92 = .ok (.iastore, 1) := by decide +kernel
theorem dX5_write_93 : decode cX5_write 93 = .ok (.iconst 1, 1) := by decide +kernel
theorem dX5_write_94 : decode cX5_write 94 = .ok (.ireturn, 1) := by decide +kernel
theorem dX5_notCopied_0 : decode cX5_notCopied 0 = .ok (.iload_n 1, 1) := by decide +kernel
theorem dX5_notCopied_1 : decode cX5_notCopied 1 = .ok (.invokestatic 149, 3) := by decide +kernel
theorem dX5_notCopied_4 : decode cX5_notCopied 4 = .ok (.ifCond .eq 10, 3) := by decide +kernel
theorem dX5_notCopied_7 : decode cX5_notCopied 7 = .ok (.iload_n 3, 1) := by decide +kernel
theorem dX5_notCopied_8 : decode cX5_notCopied 8 = .ok (.invokestatic 149, 3) := by decide +kernel
theorem dX5_notCopied_11 : decode cX5_notCopied 11 = .ok (.ifCond .ne 6, 3) := by decide +kernel
theorem dX5_notCopied_14 : decode cX5_notCopied 14 = .ok (.ldc 34, 2) := by decide +kernel
theorem dX5_notCopied_16 : decode cX5_notCopied 16 = .ok (.ireturn, 1) := by decide +kernel
theorem dX5_notCopied_17 : decode cX5_notCopied 17 = .ok (.aload_n 0, 1) := by decide +kernel
theorem dX5_notCopied_18 : decode cX5_notCopied 18 = .ok (.getfield 22, 3) := by decide +kernel
theorem dX5_notCopied_21 : decode cX5_notCopied 21 = .ok (.iload_n 1, 1) := by decide +kernel
theorem dX5_notCopied_22 : decode cX5_notCopied 22 = .ok (.iaload, 1) := by decide +kernel
theorem dX5_notCopied_23 : decode cX5_notCopied 23 = .ok (.ifCond .eq 12, 3) := by decide +kernel
theorem dX5_notCopied_26 : decode cX5_notCopied 26 = .ok (.aload_n 0, 1) := by decide +kernel
theorem dX5_notCopied_27 : decode cX5_notCopied 27 = .ok (.getfield 22, 3) := by decide +kernel
theorem dX5_notCopied_30 : decode cX5_notCopied 30 = .ok (.iload_n 3, 1) := by decide +kernel
theorem dX5_notCopied_31 : decode cX5_notCopied 31 = .ok (.iaload, 1) := by decide +kernel
theorem dX5_notCopied_32 : decode cX5_notCopied 32 = .ok (.ifCond .ne 6, 3) := by decide +kernel
theorem dX5_notCopied_35 : decode cX5_notCopied 35 = .ok (.ldc 152, 2) := by decide +kernel
theorem dX5_notCopied_37 : decode cX5_notCopied 37 = .ok (.ireturn, 1) := by decide +kernel
theorem dX5_notCopied_38 : decode cX5_notCopied 38 = .ok (.aload_n 0, 1) := by decide +kernel
theorem dX5_notCopied_39 : decode cX5_notCopied 39 = .ok (.getfield 22, 3) := by decide +kernel
theorem dX5_notCopied_42 : decode cX5_notCopied 42 = .ok (.iload_n 1, 1) := by decide +kernel
theorem dX5_notCopied_43 : decode cX5_notCopied 43 = .ok (.iaload, 1) := by decide +kernel
theorem dX5_notCopied_44 : decode cX5_notCopied 44 = .ok (.aload_n 0, 1) := by decide +kernel
theorem dX5_notCopied_45 : decode cX5_notCopied 45 = .ok (.getfield 22, 3) := by decide +kernel
theorem dX5_notCopied_48 : decode cX5_notCopied 48 = .ok (.iload_n 3, 1) := by decide +kernel
theorem dX5_notCopied_49 : decode cX5_notCopied 49 = .ok (.iaload, 1) := by decide +kernel
theorem dX5_notCopied_50 : decode cX5_notCopied 50 = .ok (.if_icmp .eq 6, 3) := by decide +kernel
theorem dX5_notCopied_53 : decode cX5_notCopied 53 = .ok (.ldc 223, 2) := by decide +kernel
theorem dX5_notCopied_55 : decode cX5_notCopied 55 = .ok (.ireturn, 1) := by decide +kernel
theorem dX5_notCopied_56 : decode cX5_notCopied 56 = .ok (.iload 5, 2) := by decide +kernel
theorem dX5_notCopied_58 : decode cX5_notCopied 58 = .ok (.ifCond .lt 43, 3) := by decide +kernel
theorem dX5_notCopied_61 : decode cX5_notCopied 61 = .ok (.iload_n 2, 1) := by decide +kernel
theorem dX5_notCopied_62 : decode cX5_notCopied 62 = .ok (.ifCond .lt 39, 3) := by decide +kernel
theorem dX5_notCopied_65 : decode cX5_notCopied 65 = .ok (.iload 4, 2) := by decide +kernel
theorem dX5_notCopied_67 : decode cX5_notCopied 67 = .ok (.ifCond .lt 34, 3) := by decide +kernel
theorem dX5_notCopied_70 : decode cX5_notCopied 70 = .ok (.iload 5, 2) := by decide +kernel
theorem dX5_notCopied_72 : decode cX5_notCopied 72 = .ok (.aload_n 0, 1) := by decide +kernel
theorem dX5_notCopied_73 : decode cX5_notCopied 73 = .ok (.getfield 25, 3) := by decide +kernel
theorem dX5_notCopied_76 : decode cX5_notCopied 76 = .ok (.iload_n 1, 1) := by decide +kernel
theorem dX5_notCopied_77 : decode cX5_notCopied 77 = .ok (.iaload, 1) := by decide +kernel
theorem dX5_notCopied_78 : decode cX5_notCopied 78 = .ok (.iload_n 2, 1) := by decide +kernel
theorem dX5_notCopied_79 : decode cX5_notCopied 79 = .ok (.isub, 1) := by decide +kernel
theorem dX5_notCopied_80 : decode cX5_notCopied 80 = .ok (.if_icmp .gt 21, 3) := by decide +kernel
theorem dX5_notCopied_83 : decode cX5_notCopied 83 = .ok (.iload 5, 2) := by decide +kernel
theorem dX5_notCopied_85 : decode cX5_notCopied 85 = .ok (.aload_n 0, 1) := by decide +kernel
theorem dX5_notCopied_86 : decode cX5_notCopied 86 = .ok (.getfield 25, 3) := by decide +kernel
theorem dX5_notCopied_89 : decode cX5_notCopied 89 = .ok (.iload_n 3, 1) := by decide +kernel
theorem dX5_notCopied_90 : decode cX5_notCopied 90 = .ok (.iaload, 1) := by decide +kernel
theorem dX5_notCopied_91 : decode cX5_notCopied 91 = .ok (.iload 4, 2) := by decide +kernel
theorem dX5_notCopied_93 : decode cX5_notCopied 93 = .ok (.isub, 1) := by decide +kernel
theorem dX5_notCopied_94 : decode cX5_notCopied 94 = .ok (.if_icmp .gt 7, 3) := by decide +kernel
theorem dX5_notCopied_97 : decode cX5_notCopied 97 = .ok (.iconst 1, 1) := by decide +kernel
theorem dX5_notCopied_98 : decode cX5_notCopied 98 = .ok (.goto 4, 3) := by decide +kernel
theorem dX5_notCopied_101 : decode cX5_notCopied 101 = .ok (.iconst 0, 1) := by decide +kernel
theorem dX5_notCopied_102 : decode cX5_notCopied 102 = .ok (.istore 6, 2) := by decide +kernel
theorem dX5_notCopied_104 : decode cX5_notCopied 104 = .ok (.iload 6, 2) := by decide +kernel
theorem dX5_notCopied_106 : decode cX5_notCopied 106 = .ok (.ifCond .eq 7, 3) := by decide +kernel
theorem dX5_notCopied_109 : decode cX5_notCopied 109 = .ok (.iconst 0, 1) := by decide +kernel
theorem dX5_notCopied_110 : decode cX5_notCopied 110 = .ok (.goto 5, 3) := by decide +kernel
theorem dX5_notCopied_113 : decode cX5_notCopied 113 = .ok (.ldc 34, 2) := by decide +kernel
theorem dX5_notCopied_115 : decode cX5_notCopied 115 = .ok (.ireturn, 1) := by decide +kernel
theorem dX5_copy_0 : decode cX5_copy 0 = .ok (.aload_n 0, 1) := by decide +kernel
theorem dX5_copy_1 : decode cX5_copy 1 = .ok (.iload_n 1, 1) := by decide +kernel
theorem dX5_copy_2 : decode cX5_copy 2 = .ok (.iload_n 2, 1) := by decide +kernel
theorem dX5_copy_3 : decode cX5_copy 3 = .ok (.iload_n 3, 1) := by decide +kernel
theorem dX5_copy_4 : decode cX5_copy 4 = .ok (.iload 4, 2) := by decide +kernel
theorem dX5_copy_6 : decode cX5_copy 6 = .ok (.iload 5, 2) := by decide +kernel
theorem dX5_copy_8 : decode cX5_copy 8 = .ok (.invokevirtual 225, 3) := by decide +kernel
theorem dX5_copy_11 : decode cX5_copy 11 = .ok (.istore 6, 2) := by decide +kernel
theorem dX5_copy_13 : decode cX5_copy 13 = .ok (.iload 6, 2) := by decide +kernel
theorem dX5_copy_15 : decode cX5_copy 15 = .ok (.ifCond .eq 10, 3) := by decide +kernel
theorem dX5_copy_18 : decode cX5_copy 18 = .ok (.aload_n 0, 1) := by decide +kernel
theorem dX5_copy_19 : decode cX5_copy 19 = .ok (.iload 6, 2) := by decide +kernel
theorem dX5_copy_21 : decode cX5_copy 21 = .ok (.invokevirtual 36, 3) := by decide +kernel
theorem dX5_copy_24 : decode cX5_copy 24 = .ok (.ireturn, 1) := by decide +kernel
theorem dX5_copy_25 : decode cX5_copy 25 = .ok (.iconst 0, 1) := by decide +kernel
theorem dX5_copy_26 : decode cX5_copy 26 = .ok (.istore 7, 2) := by decide +kernel
theorem dX5_copy_28 : decode cX5_copy 28 = .ok (.iload 7, 2) := by decide +kernel
theorem dX5_copy_30 : decode cX5_copy 30 = .ok (.iload 5, 2) := by decide +kernel
theorem dX5_copy_32 : decode cX5_copy 32 = .ok (.if_icmp .ge 58, 3) := by decide +kernel
theorem dX5_copy_35 : decode cX5_copy 35 = .ok (.iload_n 2, 1) := by decide +kernel
theorem dX5_copy_36 : decode cX5_copy 36 = .ok (.iload 4, 2) := by decide +kernel
theorem dX5_copy_38 : decode cX5_copy 38 = .ok (.if_icmp .ge 13, 3) := by decide +kernel
theorem dX5_copy_41 : decode cX5_copy 41 = .ok (.iload 5, 2) := by decide +kernel
theorem dX5_copy_43 : decode cX5_copy 43 = .ok (.iconst 1, 1) := by decide +kernel
theorem dX5_copy_44 : decode cX5_copy 44 = .ok (.isub, 1) := by decide +kernel
theorem dX5_copy_45 : decode cX5_copy 45 = .ok (.iload 7, 2) := by decide +kernel
theorem dX5_copy_47 : decode cX5_copy 47 = .ok (.isub, 1) := by decide +kernel
theorem dX5_copy_48 : decode cX5_copy 48 = .ok (.goto 5, 3) := by decide +kernel
theorem dX5_copy_51 : decode cX5_copy 51 = .ok (.iload 7, 2) := by decide +kernel
theorem dX5_copy_53 : decode cX5_copy 53 = .ok (.istore 8, 2) := by decide +kernel
theorem dX5_copy_55 : decode cX5_copy 55 = .ok (.aload_n 0, 1) := by decide +kernel
theorem dX5_copy_56 : decode cX5_copy 56 = .ok (.getfield 28, 3) := by decide +kernel
theorem dX5_copy_59 : decode cX5_copy 59 = .ok (.bipush 40, 2) := by decide +kernel
theorem dX5_copy_61 : decode cX5_copy 61 = .ok (.iload_n 3, 1) := by decide +kernel
theorem dX5_copy_62 : decode cX5_copy 62 = .ok (.imul, 1) := by decide +kernel
theorem dX5_copy_63 : decode cX5_copy 63 = .ok (.iload 4, 2) := by decide +kernel
theorem dX5_copy_65 : decode cX5_copy 65 = .ok (.iadd, 1) := by decide +kernel
theorem dX5_copy_66 : decode cX5_copy 66 = .ok (.iload 8, 2) := by decide +kernel
theorem dX5_copy_68 : decode cX5_copy 68 = .ok (.iadd, 1) := by decide +kernel
theorem dX5_copy_69 : decode cX5_copy 69 = .ok (.aload_n 0, 1) := by decide +kernel
theorem dX5_copy_70 : decode cX5_copy 70 = .ok (.getfield 28, 3) := by decide +kernel
theorem dX5_copy_73 : decode cX5_copy 73 = .ok (.bipush 40, 2) := by decide +kernel
theorem dX5_copy_75 : decode cX5_copy 75 = .ok (.iload_n 1, 1) := by decide +kernel
theorem dX5_copy_76 : decode cX5_copy 76 = .ok (.imul, 1) := by decide +kernel
theorem dX5_copy_77 : decode cX5_copy 77 = .ok (.iload_n 2, 1) := by decide +kernel
theorem dX5_copy_78 : decode cX5_copy 78 = .ok (.iadd, 1) := by decide +kernel
theorem dX5_copy_79 : decode cX5_copy 79 = .ok (.iload 8, 2) := by decide +kernel
theorem dX5_copy_81 : decode cX5_copy 81 = .ok (.iadd, 1) := by decide +kernel
theorem dX5_copy_82 : decode cX5_copy 82 = .ok (.iaload, 1) := by decide +kernel
theorem dX5_copy_83 : decode cX5_copy 83 = .ok (.iastore, 1) := by decide +kernel
theorem dX5_copy_84 : decode cX5_copy 84 = .ok (.iinc 7 1, 3) := by decide +kernel
theorem dX5_copy_87 : decode cX5_copy 87 = .ok (.goto (-59), 3) := by decide +kernel
theorem dX5_copy_90 : decode cX5_copy 90 = .ok (.iload 5, 2) := by decide +kernel
theorem dX5_copy_92 : decode cX5_copy 92 = .ok (.ireturn, 1) := by decide +kernel
theorem dX5_load_0 : decode cX5_load 0 = .ok (.aload_n 0, 1) := by decide +kernel
theorem dX5_load_1 : decode cX5_load 1 = .ok (.iload_n 1, 1) := by decide +kernel
theorem dX5_load_2 : decode cX5_load 2 = .ok (.invokevirtual 153, 3) := by decide +kernel
theorem dX5_load_5 : decode cX5_load 5 = .ok (.istore_n 2, 1) := by decide +kernel
theorem dX5_load_6 : decode cX5_load 6 = .ok (.iload_n 2, 1) := by decide +kernel
theorem dX5_load_7 : decode cX5_load 7 = .ok (.ifCond .eq 9, 3) := by decide +kernel
theorem dX5_load_10 : decode cX5_load 10 = .ok (.aload_n 0, 1) := by decide +kernel
theorem dX5_load_11 : decode cX5_load 11 = .ok (.iload_n 2, 1) := by decide +kernel
theorem dX5_load_12 : decode cX5_load 12 = .ok (.invokevirtual 36, 3) := by decide +kernel
theorem dX5_load_15 : decode cX5_load 15 = .ok (.ireturn, 1) := by decide +kernel
theorem dX5_load_16 : decode cX5_load 16 = .ok (.iconst 0, 1) := by decide +kernel
theorem dX5_load_17 : decode cX5_load 17 = .ok (.istore_n 3, 1) := by decide +kernel
theorem dX5_load_18 : decode cX5_load 18 = .ok (.iload_n 3, 1) := by decide +kernel
theorem dX5_load_19 : decode cX5_load 19 = .ok (.aload_n 0, 1) := by decide +kernel
theorem dX5_load_20 : decode cX5_load 20 = .ok (.getfield 25, 3) := by decide +kernel
theorem dX5_load_23 : decode cX5_load 23 = .ok (.iload_n 1, 1) := by decide +kernel
theorem dX5_load_24 : decode cX5_load 24 = .ok (.iaload, 1) := by decide +kernel
theorem dX5_load_25 : decode cX5_load 25 = .ok (.if_icmp .ge 52, 3) := by decide +kernel
theorem dX5_load_28 : decode cX5_load 28 = .ok (.iload_n 3, 1) := by decide +kernel
theorem dX5_load_29 : decode cX5_load 29 = .ok (.bipush 6, 2) := by decide +kernel
theorem dX5_load_31 : decode cX5_load 31 = .ok (.if_icmp .ge 46, 3) := by decide +kernel
theorem dX5_load_34 : decode cX5_load 34 = .ok (.aload_n 0, 1) := by decide +kernel
theorem dX5_load_35 : decode cX5_load 35 = .ok (.getfield 28, 3) := by decide +kernel
theorem dX5_load_38 : decode cX5_load 38 = .ok (.bipush 40, 2) := by decide +kernel
theorem dX5_load_40 : decode cX5_load 40 = .ok (.iload_n 1, 1) := by decide +kernel
theorem dX5_load_41 : decode cX5_load 41 = .ok (.imul, 1) := by decide +kernel
theorem dX5_load_42 : decode cX5_load 42 = .ok (.iload_n 3, 1) := by decide +kernel
theorem dX5_load_43 : decode cX5_load 43 = .ok (.iadd, 1) := by decide +kernel
theorem dX5_load_44 : decode cX5_load 44 = .ok (.iaload, 1) := by decide +kernel
theorem dX5_load_45 : decode cX5_load 45 = .ok (.invokestatic 55, 3) := by decide +kernel
theorem dX5_load_48 : decode cX5_load 48 = .ok (.ifCond .eq 29, 3) := by decide +kernel
theorem dX5_load_51 : decode cX5_load 51 = .ok (.aload_n 0, 1) := by decide +kernel
theorem dX5_load_52 : decode cX5_load 52 = .ok (.getfield 9, 3) := by decide +kernel
theorem dX5_load_55 : decode cX5_load 55 = .ok (.bipush 6, 2) := by decide +kernel
theorem dX5_load_57 : decode cX5_load 57 = .ok (.iload_n 3, 1) := by decide +kernel
theorem dX5_load_58 : decode cX5_load 58 = .ok (.iadd, 1) := by decide +kernel
theorem dX5_load_59 : decode cX5_load 59 = .ok (.aload_n 0, 1) := by decide +kernel
theorem dX5_load_60 : decode cX5_load 60 = .ok (.getfield 28, 3) := by decide +kernel
theorem dX5_load_63 : decode cX5_load 63 = .ok (.bipush 40, 2) := by decide +kernel
theorem dX5_load_65 : decode cX5_load 65 = .ok (.iload_n 1, 1) := by decide +kernel
theorem dX5_load_66 : decode cX5_load 66 = .ok (.imul, 1) := by decide +kernel
theorem dX5_load_67 : decode cX5_load 67 = .ok (.iload_n 3, 1) := by decide +kernel
theorem dX5_load_68 : decode cX5_load 68 = .ok (.iadd, 1) := by decide +kernel
theorem dX5_load_69 : decode cX5_load 69 = .ok (.iaload, 1) := by decide +kernel
theorem dX5_load_70 : decode cX5_load 70 = .ok (.iastore, 1) := by decide +kernel
theorem dX5_load_71 : decode cX5_load 71 = .ok (.iinc 3 1, 3) := by decide +kernel
theorem dX5_load_74 : decode cX5_load 74 = .ok (.goto (-56), 3) := by decide +kernel
theorem dX5_load_77 : decode cX5_load 77 = .ok (.iload_n 3, 1) := by decide +kernel
theorem dX5_load_78 : decode cX5_load 78 = .ok (.ireturn, 1) := by decide +kernel
theorem dX5_judge_0 : decode cX5_judge 0 = .ok (.aload_n 0, 1) := by decide +kernel
theorem dX5_judge_1 : decode cX5_judge 1 = .ok (.iload_n 1, 1) := by decide +kernel
theorem dX5_judge_2 : decode cX5_judge 2 = .ok (.invokevirtual 153, 3) := by decide +kernel
theorem dX5_judge_5 : decode cX5_judge 5 = .ok (.istore_n 2, 1) := by decide +kernel
theorem dX5_judge_6 : decode cX5_judge 6 = .ok (.iload_n 2, 1) := by decide +kernel
theorem dX5_judge_7 : decode cX5_judge 7 = .ok (.ifCond .eq 9, 3) := by decide +kernel
theorem dX5_judge_10 : decode cX5_judge 10 = .ok (.aload_n 0, 1) := by decide +kernel
theorem dX5_judge_11 : decode cX5_judge 11 = .ok (.iload_n 2, 1) := by decide +kernel
theorem dX5_judge_12 : decode cX5_judge 12 = .ok (.invokevirtual 36, 3) := by decide +kernel
theorem dX5_judge_15 : decode cX5_judge 15 = .ok (.ireturn, 1) := by decide +kernel
theorem dX5_judge_16 : decode cX5_judge 16 = .ok (.iconst 0, 1) := by decide +kernel
theorem dX5_judge_17 : decode cX5_judge 17 = .ok (.istore_n 3, 1) := by decide +kernel
theorem dX5_judge_18 : decode cX5_judge 18 = .ok (.iload_n 3, 1) := by decide +kernel
theorem dX5_judge_19 : decode cX5_judge 19 = .ok (.aload_n 0, 1) := by decide +kernel
theorem dX5_judge_20 : decode cX5_judge 20 = .ok (.getfield 25, 3) := by decide +kernel
theorem dX5_judge_23 : decode cX5_judge 23 = .ok (.iload_n 1, 1) := by decide +kernel
theorem dX5_judge_24 : decode cX5_judge 24 = .ok (.iaload, 1) := by decide +kernel
theorem dX5_judge_25 : decode cX5_judge 25 = .ok (.if_icmp .ge 41, 3) := by decide +kernel
theorem dX5_judge_28 : decode cX5_judge 28 = .ok (.aload_n 0, 1) := by decide +kernel
theorem dX5_judge_29 : decode cX5_judge 29 = .ok (.iload_n 3, 1) := by decide +kernel
theorem dX5_judge_30 : decode cX5_judge 30 = .ok (.invokevirtual 68, 3) := by decide +kernel
theorem dX5_judge_33 : decode cX5_judge 33 = .ok (.ifCond .eq 23, 3) := by decide +kernel
theorem dX5_judge_36 : decode cX5_judge 36 = .ok (.aload_n 0, 1) := by decide +kernel
theorem dX5_judge_37 : decode cX5_judge 37 = .ok (.getfield 28, 3) := by decide +kernel
theorem dX5_judge_40 : decode cX5_judge 40 = .ok (.bipush 40, 2) := by decide +kernel
theorem dX5_judge_42 : decode cX5_judge 42 = .ok (.iload_n 1, 1) := by decide +kernel
theorem dX5_judge_43 : decode cX5_judge 43 = .ok (.imul, 1) := by decide +kernel
theorem dX5_judge_44 : decode cX5_judge 44 = .ok (.iload_n 3, 1) := by decide +kernel
theorem dX5_judge_45 : decode cX5_judge 45 = .ok (.iadd, 1) := by decide +kernel
theorem dX5_judge_46 : decode cX5_judge 46 = .ok (.iaload, 1) := by decide +kernel
theorem dX5_judge_47 : decode cX5_judge 47 = .ok (.aload_n 0, 1) := by decide +kernel
theorem dX5_judge_48 : decode cX5_judge 48 = .ok (.iload_n 3, 1) := by decide +kernel
theorem dX5_judge_49 : decode cX5_judge 49 = .ok (.iconst 1, 1) := by decide +kernel
theorem dX5_judge_50 : decode cX5_judge 50 = .ok (.invokevirtual 44, 3) := by decide +kernel
theorem dX5_judge_53 : decode cX5_judge 53 = .ok (.if_icmp .eq 7, 3) := by decide +kernel
theorem dX5_judge_56 : decode cX5_judge 56 = .ok (.iconst 1, 1) := by decide +kernel
theorem dX5_judge_57 : decode cX5_judge 57 = .ok (.iload_n 3, 1) := by decide +kernel
theorem dX5_judge_58 : decode cX5_judge 58 = .ok (.iadd, 1) := by decide +kernel
theorem dX5_judge_59 : decode cX5_judge 59 = .ok (.ireturn, 1) := by decide +kernel
theorem dX5_judge_60 : decode cX5_judge 60 = .ok (.iinc 3 1, 3) := by decide +kernel
theorem dX5_judge_63 : decode cX5_judge 63 = .ok (.goto (-45), 3) := by decide +kernel
theorem dX5_judge_66 : decode cX5_judge 66 = .ok (.iconst 0, 1) := by decide +kernel
theorem dX5_judge_67 : decode cX5_judge 67 = .ok (.ireturn, 1) := by decide +kernel
theorem dX5_image_0 : decode cX5_image 0 = .ok (.aload_n 0, 1) := by decide +kernel
theorem dX5_image_1 : decode cX5_image 1 = .ok (.getfield 9, 3) := by decide +kernel
theorem dX5_image_4 : decode cX5_image 4 = .ok (.aload_n 0, 1) := by decide +kernel
theorem dX5_image_5 : decode cX5_image 5 = .ok (.getfield 13, 3) := by decide +kernel
theorem dX5_image_8 : decode cX5_image 8 = .ok (.invokestatic 129, 3) := by decide +kernel
theorem dX5_image_11 : decode cX5_image 11 = .ok (.aload_n 0, 1) := by decide +kernel
theorem dX5_image_12 : decode cX5_image 12 = .ok (.iconst 1, 1) := by decide +kernel
theorem dX5_image_13 : decode cX5_image 13 = .ok (.putfield 228, 3) := by decide +kernel
theorem dX5_image_16 : decode cX5_image 16 = .ok (.iconst 1, 1) := by decide +kernel
theorem dX5_image_17 : decode cX5_image 17 = .ok (.ireturn, 1) := by decide +kernel
theorem dX5_undo_0 : decode cX5_undo 0 = .ok (.aload_n 0, 1) := by decide +kernel
theorem dX5_undo_1 : decode cX5_undo 1 = .ok (.getfield 228, 3) := by decide +kernel
theorem dX5_undo_4 : decode cX5_undo 4 = .ok (.ifCond .ne 10, 3) := by decide +kernel
theorem dX5_undo_7 : decode cX5_undo 7 = .ok (.aload_n 0, 1) := by decide +kernel
theorem dX5_undo_8 : decode cX5_undo 8 = .ok (.ldc 35, 2) := by decide +kernel
theorem dX5_undo_10 : decode cX5_undo 10 = .ok (.invokevirtual 36, 3) := by decide +kernel
theorem dX5_undo_13 : decode cX5_undo 13 = .ok (.ireturn, 1) := by decide +kernel
theorem dX5_undo_14 : decode cX5_undo 14 = .ok (.aload_n 0, 1) := by decide +kernel
theorem dX5_undo_15 : decode cX5_undo 15 = .ok (.getfield 13, 3) := by decide +kernel
theorem dX5_undo_18 : decode cX5_undo 18 = .ok (.aload_n 0, 1) := by decide +kernel
theorem dX5_undo_19 : decode cX5_undo 19 = .ok (.getfield 9, 3) := by decide +kernel
theorem dX5_undo_22 : decode cX5_undo 22 = .ok (.invokestatic 129, 3) := by decide +kernel
theorem dX5_undo_25 : decode cX5_undo 25 = .ok (.aload_n 0, 1) := by decide +kernel
theorem dX5_undo_26 : decode cX5_undo 26 = .ok (.getfield 9, 3) := by decide +kernel
theorem dX5_undo_29 : decode cX5_undo 29 = .ok (.iconst 0, 1) := by decide +kernel
theorem dX5_undo_30 : decode cX5_undo 30 = .ok (.iaload, 1) := by decide +kernel
theorem dX5_undo_31 : decode cX5_undo 31 = .ok (.ireturn, 1) := by decide +kernel
theorem dX5_tear_0 : decode cX5_tear 0 = .ok (.aload_n 0, 1) := by decide +kernel
theorem dX5_tear_1 : decode cX5_tear 1 = .ok (.getfield 228, 3) := by decide +kernel
theorem dX5_tear_4 : decode cX5_tear 4 = .ok (.ifCond .eq 7, 3) := by decide +kernel
theorem dX5_tear_7 : decode cX5_tear 7 = .ok (.iconst 1, 1) := by decide +kernel
theorem dX5_tear_8 : decode cX5_tear 8 = .ok (.goto 4, 3) := by decide +kernel
theorem dX5_tear_11 : decode cX5_tear 11 = .ok (.iconst 0, 1) := by decide +kernel
theorem dX5_tear_12 : decode cX5_tear 12 = .ok (.istore_n 1, 1) := by decide +kernel
theorem dX5_tear_13 : decode cX5_tear 13 = .ok (.aload_n 0, 1) := by decide +kernel
theorem dX5_tear_14 : decode cX5_tear 14 = .ok (.iconst 0, 1) := by decide +kernel
theorem dX5_tear_15 : decode cX5_tear 15 = .ok (.putfield 228, 3) := by decide +kernel
theorem dX5_tear_18 : decode cX5_tear 18 = .ok (.iload_n 1, 1) := by decide +kernel
theorem dX5_tear_19 : decode cX5_tear 19 = .ok (.ireturn, 1) := by decide +kernel
theorem dX5_manyHeld_0 : decode cX5_manyHeld 0 = .ok (.iconst 0, 1) := by decide +kernel
theorem dX5_manyHeld_1 : decode cX5_manyHeld 1 = .ok (.istore_n 1, 1) := by decide +kernel
theorem dX5_manyHeld_2 : decode cX5_manyHeld 2 = .ok (.bipush 60, 2) := by decide +kernel
theorem dX5_manyHeld_4 : decode cX5_manyHeld 4 = .ok (.istore_n 2, 1) := by decide +kernel
theorem dX5_manyHeld_5 : decode cX5_manyHeld 5 = .ok (.iload_n 2, 1) := by decide +kernel
theorem dX5_manyHeld_6 : decode cX5_manyHeld 6 = .ok (.bipush 70, 2) := by decide +kernel
theorem dX5_manyHeld_8 : decode cX5_manyHeld 8 = .ok (.if_icmp .ge 26, 3) := by decide +kernel
theorem dX5_manyHeld_11 : decode cX5_manyHeld 11 = .ok (.iload_n 1, 1) := by decide +kernel
theorem dX5_manyHeld_12 : decode cX5_manyHeld 12 = .ok (.aload_n 0, 1) := by decide +kernel
theorem dX5_manyHeld_13 : decode cX5_manyHeld 13 = .ok (.getfield 9, 3) := by decide +kernel
theorem dX5_manyHeld_16 : decode cX5_manyHeld 16 = .ok (.iload_n 2, 1) := by decide +kernel
theorem dX5_manyHeld_17 : decode cX5_manyHeld 17 = .ok (.iaload, 1) := by decide +kernel
theorem dX5_manyHeld_18 : decode cX5_manyHeld 18 = .ok (.ifCond .lt 7, 3) := by decide +kernel
theorem dX5_manyHeld_21 : decode cX5_manyHeld 21 = .ok (.iconst 1, 1) := by decide +kernel
theorem dX5_manyHeld_22 : decode cX5_manyHeld 22 = .ok (.goto 4, 3) := by decide +kernel
theorem dX5_manyHeld_25 : decode cX5_manyHeld 25 = .ok (.iconst 0, 1) := by decide +kernel
theorem dX5_manyHeld_26 : decode cX5_manyHeld 26 = .ok (.iadd, 1) := by decide +kernel
theorem dX5_manyHeld_27 : decode cX5_manyHeld 27 = .ok (.istore_n 1, 1) := by decide +kernel
theorem dX5_manyHeld_28 : decode cX5_manyHeld 28 = .ok (.iinc 2 1, 3) := by decide +kernel
theorem dX5_manyHeld_31 : decode cX5_manyHeld 31 = .ok (.goto (-26), 3) := by decide +kernel
theorem dX5_manyHeld_34 : decode cX5_manyHeld 34 = .ok (.iload_n 1, 1) := by decide +kernel
theorem dX5_manyHeld_35 : decode cX5_manyHeld 35 = .ok (.ireturn, 1) := by decide +kernel
theorem dX5_count_0 : decode cX5_count 0 = .ok (.iload_n 1, 1) := by decide +kernel
theorem dX5_count_1 : decode cX5_count 1 = .ok (.tableswitch 101 0 7 #[47, 54, 61, 68, 75, 84, 89, 96], 47) := by decide +kernel
theorem dX5_count_48 : decode cX5_count 48 = .ok (.aload_n 0, 1) := by decide +kernel
theorem dX5_count_49 : decode cX5_count 49 = .ok (.getfield 9, 3) := by decide +kernel
theorem dX5_count_52 : decode cX5_count 52 = .ok (.iconst 0, 1) := by decide +kernel
theorem dX5_count_53 : decode cX5_count 53 = .ok (.iaload, 1) := by decide +kernel
theorem dX5_count_54 : decode cX5_count 54 = .ok (.ireturn, 1) := by decide +kernel
theorem dX5_count_55 : decode cX5_count 55 = .ok (.aload_n 0, 1) := by decide +kernel
theorem dX5_count_56 : decode cX5_count 56 = .ok (.getfield 9, 3) := by decide +kernel
theorem dX5_count_59 : decode cX5_count 59 = .ok (.iconst 5, 1) := by decide +kernel
theorem dX5_count_60 : decode cX5_count 60 = .ok (.iaload, 1) := by decide +kernel
theorem dX5_count_61 : decode cX5_count 61 = .ok (.ireturn, 1) := by decide +kernel
theorem dX5_count_62 : decode cX5_count 62 = .ok (.aload_n 0, 1) := by decide +kernel
theorem dX5_count_63 : decode cX5_count 63 = .ok (.getfield 9, 3) := by decide +kernel
theorem dX5_count_66 : decode cX5_count 66 = .ok (.iconst 1, 1) := by decide +kernel
theorem dX5_count_67 : decode cX5_count 67 = .ok (.iaload, 1) := by decide +kernel
theorem dX5_count_68 : decode cX5_count 68 = .ok (.ireturn, 1) := by decide +kernel
theorem dX5_count_69 : decode cX5_count 69 = .ok (.aload_n 0, 1) := by decide +kernel
theorem dX5_count_70 : decode cX5_count 70 = .ok (.getfield 9, 3) := by decide +kernel
theorem dX5_count_73 : decode cX5_count 73 = .ok (.iconst 3, 1) := by decide +kernel
theorem dX5_count_74 : decode cX5_count 74 = .ok (.iaload, 1) := by decide +kernel
theorem dX5_count_75 : decode cX5_count 75 = .ok (.ireturn, 1) := by decide +kernel
theorem dX5_count_76 : decode cX5_count 76 = .ok (.aload_n 0, 1) := by decide +kernel
theorem dX5_count_77 : decode cX5_count 77 = .ok (.iconst 3, 1) := by decide +kernel
theorem dX5_count_78 : decode cX5_count 78 = .ok (.invokevirtual 117, 3) := by decide +kernel
theorem dX5_count_81 : decode cX5_count 81 = .ok (.invokestatic 142, 3) := by decide +kernel
theorem dX5_count_84 : decode cX5_count 84 = .ok (.ireturn, 1) := by decide +kernel
theorem dX5_count_85 : decode cX5_count 85 = .ok (.aload_n 0, 1) := by decide +kernel
theorem dX5_count_86 : decode cX5_count 86 = .ok (.getfield 166, 3) := by decide +kernel
theorem dX5_count_89 : decode cX5_count 89 = .ok (.ireturn, 1) := by decide +kernel
theorem dX5_count_90 : decode cX5_count 90 = .ok (.aload_n 0, 1) := by decide +kernel
theorem dX5_count_91 : decode cX5_count 91 = .ok (.getfield 9, 3) := by decide +kernel
theorem dX5_count_94 : decode cX5_count 94 = .ok (.iconst 4, 1) := by decide +kernel
theorem dX5_count_95 : decode cX5_count 95 = .ok (.iaload, 1) := by decide +kernel
theorem dX5_count_96 : decode cX5_count 96 = .ok (.ireturn, 1) := by decide +kernel
theorem dX5_count_97 : decode cX5_count 97 = .ok (.aload_n 0, 1) := by decide +kernel
theorem dX5_count_98 : decode cX5_count 98 = .ok (.invokevirtual 231, 3) := by decide +kernel
theorem dX5_count_101 : decode cX5_count 101 = .ok (.ireturn, 1) := by decide +kernel
theorem dX5_count_102 : decode cX5_count 102 = .ok (.aload_n 0, 1) := by decide +kernel
theorem dX5_count_103 : decode cX5_count 103 = .ok (.ldc 34, 2) := by decide +kernel
theorem dX5_count_105 : decode cX5_count 105 = .ok (.invokevirtual 36, 3) := by decide +kernel
theorem dX5_count_108 : decode cX5_count 108 = .ok (.ireturn, 1) := by decide +kernel
theorem dX5_status_0 : decode cX5_status 0 = .ok (.iload_n 1, 1) := by decide +kernel
theorem dX5_status_1 : decode cX5_status 1 = .ok (.iconst (-1), 1) := by decide +kernel
theorem dX5_status_2 : decode cX5_status 2 = .ok (.bipush 6, 2) := by decide +kernel
theorem dX5_status_4 : decode cX5_status 4 = .ok (.invokestatic 40, 3) := by decide +kernel
theorem dX5_status_7 : decode cX5_status 7 = .ok (.ifCond .ne 10, 3) := by decide +kernel
theorem dX5_status_10 : decode cX5_status 10 = .ok (.aload_n 0, 1) := by decide +kernel
theorem dX5_status_11 : decode cX5_status 11 = .ok (.ldc 34, 2) := by decide +kernel
theorem dX5_status_13 : decode cX5_status 13 = .ok (.invokevirtual 36, 3) := by decide +kernel
theorem dX5_status_16 : decode cX5_status 16 = .ok (.ireturn, 1) := by decide +kernel
theorem dX5_status_17 : decode cX5_status 17 = .ok (.iconst 0, 1) := by decide +kernel
theorem dX5_status_18 : decode cX5_status 18 = .ok (.istore_n 2, 1) := by decide +kernel
theorem dX5_status_19 : decode cX5_status 19 = .ok (.iconst 0, 1) := by decide +kernel
theorem dX5_status_20 : decode cX5_status 20 = .ok (.istore_n 3, 1) := by decide +kernel
theorem dX5_status_21 : decode cX5_status 21 = .ok (.iload_n 3, 1) := by decide +kernel
theorem dX5_status_22 : decode cX5_status 22 = .ok (.bipush 7, 2) := by decide +kernel
theorem dX5_status_24 : decode cX5_status 24 = .ok (.if_icmp .ge 31, 3) := by decide +kernel
theorem dX5_status_27 : decode cX5_status 27 = .ok (.iload_n 2, 1) := by decide +kernel
theorem dX5_status_28 : decode cX5_status 28 = .ok (.iload_n 1, 1) := by decide +kernel
theorem dX5_status_29 : decode cX5_status 29 = .ok (.ifCond .lt 8, 3) := by decide +kernel
theorem dX5_status_32 : decode cX5_status 32 = .ok (.iload_n 1, 1) := by decide +kernel
theorem dX5_status_33 : decode cX5_status 33 = .ok (.iload_n 3, 1) := by decide +kernel
theorem dX5_status_34 : decode cX5_status 34 = .ok (.if_icmp .ne 12, 3) := by decide +kernel
theorem dX5_status_37 : decode cX5_status 37 = .ok (.aload_n 0, 1) := by decide +kernel
theorem dX5_status_38 : decode cX5_status 38 = .ok (.getfield 19, 3) := by decide +kernel
theorem dX5_status_41 : decode cX5_status 41 = .ok (.iload_n 3, 1) := by decide +kernel
theorem dX5_status_42 : decode cX5_status 42 = .ok (.iaload, 1) := by decide +kernel
theorem dX5_status_43 : decode cX5_status 43 = .ok (.goto 4, 3) := by decide +kernel
theorem dX5_status_46 : decode cX5_status 46 = .ok (.iconst 0, 1) := by decide +kernel
theorem dX5_status_47 : decode cX5_status 47 = .ok (.iadd, 1) := by decide +kernel
theorem dX5_status_48 : decode cX5_status 48 = .ok (.istore_n 2, 1) := by decide +kernel
theorem dX5_status_49 : decode cX5_status 49 = .ok (.iinc 3 1, 3) := by decide +kernel
theorem dX5_status_52 : decode cX5_status 52 = .ok (.goto (-31), 3) := by decide +kernel
theorem dX5_status_55 : decode cX5_status 55 = .ok (.iload_n 2, 1) := by decide +kernel
theorem dX5_status_56 : decode cX5_status 56 = .ok (.ireturn, 1) := by decide +kernel
end
section
theorem dL_law_0 : decode cL_law 0 = .ok (.new 7, 3) := by decide +kernel
theorem dL_law_3 : decode cL_law 3 = .ok (.dup, 1) := by decide +kernel
theorem dL_law_4 : decode cL_law 4 = .ok (.invokespecial 9, 3) := by decide +kernel
theorem dL_law_7 : decode cL_law 7 = .ok (.astore_n 1, 1) := by decide +kernel
theorem dL_law_8 : decode cL_law 8 = .ok (.new 10, 3) := by decide +kernel
theorem dL_law_11 : decode cL_law 11 = .ok (.dup, 1) := by decide +kernel
theorem dL_law_12 : decode cL_law 12 = .ok (.invokespecial 12, 3) := by decide +kernel
theorem dL_law_15 : decode cL_law 15 = .ok (.astore_n 2, 1) := by decide +kernel
theorem dL_law_16 : decode cL_law 16 = .ok (.iconst 0, 1) := by decide +kernel
theorem dL_law_17 : decode cL_law 17 = .ok (.istore_n 3, 1) := by decide +kernel
theorem dL_law_18 : decode cL_law 18 = .ok (.iload_n 3, 1) := by decide +kernel
theorem dL_law_19 : decode cL_law 19 = .ok (.aload_n 0, 1) := by decide +kernel
theorem dL_law_20 : decode cL_law 20 = .ok (.arraylength, 1) := by decide +kernel
theorem dL_law_21 : decode cL_law 21 = .ok (.bipush 6, 2) := by decide +kernel
theorem dL_law_23 : decode cL_law 23 = .ok (.isub, 1) := by decide +kernel
theorem dL_law_24 : decode cL_law 24 = .ok (.if_icmp .gt 1331, 3) := by decide +kernel
theorem dL_law_27 : decode cL_law 27 = .ok (.aload_n 0, 1) := by decide +kernel
theorem dL_law_28 : decode cL_law 28 = .ok (.iload_n 3, 1) := by decide +kernel
theorem dL_law_29 : decode cL_law 29 = .ok (.iaload, 1) := by decide +kernel
theorem dL_law_30 : decode cL_law 30 = .ok (.bipush 63, 2) := by decide +kernel
theorem dL_law_32 : decode cL_law 32 = .ok (.iand, 1) := by decide +kernel
theorem dL_law_33 : decode cL_law 33 = .ok (.tableswitch 1316 0 39 #[175, 208, 241, 264, 297, 330, 373, 396, 419, 442, 465, 508, 531, 554, 587, 610, 643, 676, 709, 732, 755, 788, 821, 844, 888, 911, 944, 957, 970, 1003, 1036, 1079, 1122, 1185, 1208, 1231, 1244, 1257, 1270, 1293], 175) := by decide +kernel
theorem dL_law_208 : decode cL_law 208 = .ok (.aload_n 1, 1) := by decide +kernel
theorem dL_law_209 : decode cL_law 209 = .ok (.aload_n 0, 1) := by decide +kernel
theorem dL_law_210 : decode cL_law 210 = .ok (.iload_n 3, 1) := by decide +kernel
theorem dL_law_211 : decode cL_law 211 = .ok (.iconst 1, 1) := by decide +kernel
theorem dL_law_212 : decode cL_law 212 = .ok (.iadd, 1) := by decide +kernel
theorem dL_law_213 : decode cL_law 213 = .ok (.iaload, 1) := by decide +kernel
theorem dL_law_214 : decode cL_law 214 = .ok (.aload_n 0, 1) := by decide +kernel
theorem dL_law_215 : decode cL_law 215 = .ok (.iload_n 3, 1) := by decide +kernel
theorem dL_law_216 : decode cL_law 216 = .ok (.iconst 2, 1) := by decide +kernel
theorem dL_law_217 : decode cL_law 217 = .ok (.iadd, 1) := by decide +kernel
theorem dL_law_218 : decode cL_law 218 = .ok (.iaload, 1) := by decide +kernel
theorem dL_law_219 : decode cL_law 219 = .ok (.invokevirtual 13, 3) := by decide +kernel
theorem dL_law_222 : decode cL_law 222 = .ok (.aload_n 2, 1) := by decide +kernel
theorem dL_law_223 : decode cL_law 223 = .ok (.aload_n 0, 1) := by decide +kernel
theorem dL_law_224 : decode cL_law 224 = .ok (.iload_n 3, 1) := by decide +kernel
theorem dL_law_225 : decode cL_law 225 = .ok (.iconst 1, 1) := by decide +kernel
theorem dL_law_226 : decode cL_law 226 = .ok (.iadd, 1) := by decide +kernel
theorem dL_law_227 : decode cL_law 227 = .ok (.iaload, 1) := by decide +kernel
theorem dL_law_228 : decode cL_law 228 = .ok (.aload_n 0, 1) := by decide +kernel
theorem dL_law_229 : decode cL_law 229 = .ok (.iload_n 3, 1) := by decide +kernel
theorem dL_law_230 : decode cL_law 230 = .ok (.iconst 2, 1) := by decide +kernel
theorem dL_law_231 : decode cL_law 231 = .ok (.iadd, 1) := by decide +kernel
theorem dL_law_232 : decode cL_law 232 = .ok (.iaload, 1) := by decide +kernel
theorem dL_law_233 : decode cL_law 233 = .ok (.invokevirtual 17, 3) := by decide +kernel
theorem dL_law_236 : decode cL_law 236 = .ok (.if_icmp .eq 1113, 3) := by decide +kernel
theorem dL_law_239 : decode cL_law 239 = .ok (.iconst 0, 1) := by decide +kernel
theorem dL_law_240 : decode cL_law 240 = .ok (.ireturn, 1) := by decide +kernel
theorem dL_law_241 : decode cL_law 241 = .ok (.aload_n 1, 1) := by decide +kernel
theorem dL_law_242 : decode cL_law 242 = .ok (.aload_n 0, 1) := by decide +kernel
theorem dL_law_243 : decode cL_law 243 = .ok (.iload_n 3, 1) := by decide +kernel
theorem dL_law_244 : decode cL_law 244 = .ok (.iconst 1, 1) := by decide +kernel
theorem dL_law_245 : decode cL_law 245 = .ok (.iadd, 1) := by decide +kernel
theorem dL_law_246 : decode cL_law 246 = .ok (.iaload, 1) := by decide +kernel
theorem dL_law_247 : decode cL_law 247 = .ok (.aload_n 0, 1) := by decide +kernel
theorem dL_law_248 : decode cL_law 248 = .ok (.iload_n 3, 1) := by decide +kernel
theorem dL_law_249 : decode cL_law 249 = .ok (.iconst 2, 1) := by decide +kernel
theorem dL_law_250 : decode cL_law 250 = .ok (.iadd, 1) := by decide +kernel
theorem dL_law_251 : decode cL_law 251 = .ok (.iaload, 1) := by decide +kernel
theorem dL_law_252 : decode cL_law 252 = .ok (.invokevirtual 18, 3) := by decide +kernel
theorem dL_law_255 : decode cL_law 255 = .ok (.aload_n 2, 1) := by decide +kernel
theorem dL_law_256 : decode cL_law 256 = .ok (.aload_n 0, 1) := by decide +kernel
theorem dL_law_257 : decode cL_law 257 = .ok (.iload_n 3, 1) := by decide +kernel
theorem dL_law_258 : decode cL_law 258 = .ok (.iconst 1, 1) := by decide +kernel
theorem dL_law_259 : decode cL_law 259 = .ok (.iadd, 1) := by decide +kernel
theorem dL_law_260 : decode cL_law 260 = .ok (.iaload, 1) := by decide +kernel
theorem dL_law_261 : decode cL_law 261 = .ok (.aload_n 0, 1) := by decide +kernel
theorem dL_law_262 : decode cL_law 262 = .ok (.iload_n 3, 1) := by decide +kernel
theorem dL_law_263 : decode cL_law 263 = .ok (.iconst 2, 1) := by decide +kernel
theorem dL_law_264 : decode cL_law 264 = .ok (.iadd, 1) := by decide +kernel
theorem dL_law_265 : decode cL_law 265 = .ok (.iaload, 1) := by decide +kernel
theorem dL_law_266 : decode cL_law 266 = .ok (.invokevirtual 21, 3) := by decide +kernel
theorem dL_law_269 : decode cL_law 269 = .ok (.if_icmp .eq 1080, 3) := by decide +kernel
theorem dL_law_272 : decode cL_law 272 = .ok (.iconst 0, 1) := by decide +kernel
theorem dL_law_273 : decode cL_law 273 = .ok (.ireturn, 1) := by decide +kernel
theorem dL_law_274 : decode cL_law 274 = .ok (.aload_n 1, 1) := by decide +kernel
theorem dL_law_275 : decode cL_law 275 = .ok (.aload_n 0, 1) := by decide +kernel
theorem dL_law_276 : decode cL_law 276 = .ok (.iload_n 3, 1) := by decide +kernel
theorem dL_law_277 : decode cL_law 277 = .ok (.iconst 1, 1) := by decide +kernel
theorem dL_law_278 : decode cL_law 278 = .ok (.iadd, 1) := by decide +kernel
theorem dL_law_279 : decode cL_law 279 = .ok (.iaload, 1) := by decide +kernel
theorem dL_law_280 : decode cL_law 280 = .ok (.invokevirtual 22, 3) := by decide +kernel
theorem dL_law_283 : decode cL_law 283 = .ok (.aload_n 2, 1) := by decide +kernel
theorem dL_law_284 : decode cL_law 284 = .ok (.aload_n 0, 1) := by decide +kernel
theorem dL_law_285 : decode cL_law 285 = .ok (.iload_n 3, 1) := by decide +kernel
theorem dL_law_286 : decode cL_law 286 = .ok (.iconst 1, 1) := by decide +kernel
theorem dL_law_287 : decode cL_law 287 = .ok (.iadd, 1) := by decide +kernel
theorem dL_law_288 : decode cL_law 288 = .ok (.iaload, 1) := by decide +kernel
theorem dL_law_289 : decode cL_law 289 = .ok (.invokevirtual 26, 3) := by decide +kernel
theorem dL_law_292 : decode cL_law 292 = .ok (.if_icmp .eq 1057, 3) := by decide +kernel
theorem dL_law_295 : decode cL_law 295 = .ok (.iconst 0, 1) := by decide +kernel
theorem dL_law_296 : decode cL_law 296 = .ok (.ireturn, 1) := by decide +kernel
theorem dL_law_297 : decode cL_law 297 = .ok (.aload_n 1, 1) := by decide +kernel
theorem dL_law_298 : decode cL_law 298 = .ok (.aload_n 0, 1) := by decide +kernel
theorem dL_law_299 : decode cL_law 299 = .ok (.iload_n 3, 1) := by decide +kernel
theorem dL_law_300 : decode cL_law 300 = .ok (.iconst 1, 1) := by decide +kernel
theorem dL_law_301 : decode cL_law 301 = .ok (.iadd, 1) := by decide +kernel
theorem dL_law_302 : decode cL_law 302 = .ok (.iaload, 1) := by decide +kernel
theorem dL_law_303 : decode cL_law 303 = .ok (.aload_n 0, 1) := by decide +kernel
theorem dL_law_304 : decode cL_law 304 = .ok (.iload_n 3, 1) := by decide +kernel
theorem dL_law_305 : decode cL_law 305 = .ok (.iconst 2, 1) := by decide +kernel
theorem dL_law_306 : decode cL_law 306 = .ok (.iadd, 1) := by decide +kernel
theorem dL_law_307 : decode cL_law 307 = .ok (.iaload, 1) := by decide +kernel
theorem dL_law_308 : decode cL_law 308 = .ok (.invokevirtual 27, 3) := by decide +kernel
theorem dL_law_311 : decode cL_law 311 = .ok (.aload_n 2, 1) := by decide +kernel
theorem dL_law_312 : decode cL_law 312 = .ok (.aload_n 0, 1) := by decide +kernel
theorem dL_law_313 : decode cL_law 313 = .ok (.iload_n 3, 1) := by decide +kernel
theorem dL_law_314 : decode cL_law 314 = .ok (.iconst 1, 1) := by decide +kernel
theorem dL_law_315 : decode cL_law 315 = .ok (.iadd, 1) := by decide +kernel
theorem dL_law_316 : decode cL_law 316 = .ok (.iaload, 1) := by decide +kernel
theorem dL_law_317 : decode cL_law 317 = .ok (.aload_n 0, 1) := by decide +kernel
theorem dL_law_318 : decode cL_law 318 = .ok (.iload_n 3, 1) := by decide +kernel
theorem dL_law_319 : decode cL_law 319 = .ok (.iconst 2, 1) := by decide +kernel
theorem dL_law_320 : decode cL_law 320 = .ok (.iadd, 1) := by decide +kernel
theorem dL_law_321 : decode cL_law 321 = .ok (.iaload, 1) := by decide +kernel
theorem dL_law_322 : decode cL_law 322 = .ok (.invokevirtual 30, 3) := by decide +kernel
theorem dL_law_325 : decode cL_law 325 = .ok (.if_icmp .eq 1024, 3) := by decide +kernel
theorem dL_law_328 : decode cL_law 328 = .ok (.iconst 0, 1) := by decide +kernel
theorem dL_law_329 : decode cL_law 329 = .ok (.ireturn, 1) := by decide +kernel
theorem dL_law_330 : decode cL_law 330 = .ok (.aload_n 1, 1) := by decide +kernel
theorem dL_law_331 : decode cL_law 331 = .ok (.aload_n 0, 1) := by decide +kernel
theorem dL_law_332 : decode cL_law 332 = .ok (.iload_n 3, 1) := by decide +kernel
theorem dL_law_333 : decode cL_law 333 = .ok (.iconst 1, 1) := by decide +kernel
theorem dL_law_334 : decode cL_law 334 = .ok (.iadd, 1) := by decide +kernel
theorem dL_law_335 : decode cL_law 335 = .ok (.iaload, 1) := by decide +kernel
theorem dL_law_336 : decode cL_law 336 = .ok (.aload_n 0, 1) := by decide +kernel
theorem dL_law_337 : decode cL_law 337 = .ok (.iload_n 3, 1) := by decide +kernel
theorem dL_law_338 : decode cL_law 338 = .ok (.iconst 2, 1) := by decide +kernel
theorem dL_law_339 : decode cL_law 339 = .ok (.iadd, 1) := by decide +kernel
theorem dL_law_340 : decode cL_law 340 = .ok (.iaload, 1) := by decide +kernel
theorem dL_law_341 : decode cL_law 341 = .ok (.invokevirtual 31, 3) := by decide +kernel
theorem dL_law_344 : decode cL_law 344 = .ok (.aload_n 2, 1) := by decide +kernel
theorem dL_law_345 : decode cL_law 345 = .ok (.aload_n 0, 1) := by decide +kernel
theorem dL_law_346 : decode cL_law 346 = .ok (.iload_n 3, 1) := by decide +kernel
theorem dL_law_347 : decode cL_law 347 = .ok (.iconst 1, 1) := by decide +kernel
theorem dL_law_348 : decode cL_law 348 = .ok (.iadd, 1) := by decide +kernel
theorem dL_law_349 : decode cL_law 349 = .ok (.iaload, 1) := by decide +kernel
theorem dL_law_350 : decode cL_law 350 = .ok (.aload_n 0, 1) := by decide +kernel
theorem dL_law_351 : decode cL_law 351 = .ok (.iload_n 3, 1) := by decide +kernel
theorem dL_law_352 : decode cL_law 352 = .ok (.iconst 2, 1) := by decide +kernel
theorem dL_law_353 : decode cL_law 353 = .ok (.iadd, 1) := by decide +kernel
theorem dL_law_354 : decode cL_law 354 = .ok (.iaload, 1) := by decide +kernel
theorem dL_law_355 : decode cL_law 355 = .ok (.invokevirtual 34, 3) := by decide +kernel
theorem dL_law_358 : decode cL_law 358 = .ok (.if_icmp .eq 991, 3) := by decide +kernel
theorem dL_law_361 : decode cL_law 361 = .ok (.iconst 0, 1) := by decide +kernel
theorem dL_law_362 : decode cL_law 362 = .ok (.ireturn, 1) := by decide +kernel
theorem dL_law_363 : decode cL_law 363 = .ok (.aload_n 1, 1) := by decide +kernel
theorem dL_law_364 : decode cL_law 364 = .ok (.aload_n 0, 1) := by decide +kernel
theorem dL_law_365 : decode cL_law 365 = .ok (.iload_n 3, 1) := by decide +kernel
theorem dL_law_366 : decode cL_law 366 = .ok (.iconst 1, 1) := by decide +kernel
theorem dL_law_367 : decode cL_law 367 = .ok (.iadd, 1) := by decide +kernel
theorem dL_law_368 : decode cL_law 368 = .ok (.iaload, 1) := by decide +kernel
theorem dL_law_369 : decode cL_law 369 = .ok (.aload_n 0, 1) := by decide +kernel
theorem dL_law_370 : decode cL_law 370 = .ok (.iload_n 3, 1) := by decide +kernel
theorem dL_law_371 : decode cL_law 371 = .ok (.iconst 2, 1) := by decide +kernel
theorem dL_law_372 : decode cL_law 372 = .ok (.iadd, 1) := by decide +kernel
theorem dL_law_373 : decode cL_law 373 = .ok (.iaload, 1) := by decide +kernel
theorem dL_law_374 : decode cL_law 374 = .ok (.aload_n 0, 1) := by decide +kernel
theorem dL_law_375 : decode cL_law 375 = .ok (.iload_n 3, 1) := by decide +kernel
theorem dL_law_376 : decode cL_law 376 = .ok (.iconst 3, 1) := by decide +kernel
theorem dL_law_377 : decode cL_law 377 = .ok (.iadd, 1) := by decide +kernel
theorem dL_law_378 : decode cL_law 378 = .ok (.iaload, 1) := by decide +kernel
theorem dL_law_379 : decode cL_law 379 = .ok (.invokevirtual 35, 3) := by decide +kernel
theorem dL_law_382 : decode cL_law 382 = .ok (.aload_n 2, 1) := by decide +kernel
theorem dL_law_383 : decode cL_law 383 = .ok (.aload_n 0, 1) := by decide +kernel
theorem dL_law_384 : decode cL_law 384 = .ok (.iload_n 3, 1) := by decide +kernel
theorem dL_law_385 : decode cL_law 385 = .ok (.iconst 1, 1) := by decide +kernel
theorem dL_law_386 : decode cL_law 386 = .ok (.iadd, 1) := by decide +kernel
theorem dL_law_387 : decode cL_law 387 = .ok (.iaload, 1) := by decide +kernel
theorem dL_law_388 : decode cL_law 388 = .ok (.aload_n 0, 1) := by decide +kernel
theorem dL_law_389 : decode cL_law 389 = .ok (.iload_n 3, 1) := by decide +kernel
theorem dL_law_390 : decode cL_law 390 = .ok (.iconst 2, 1) := by decide +kernel
theorem dL_law_391 : decode cL_law 391 = .ok (.iadd, 1) := by decide +kernel
theorem dL_law_392 : decode cL_law 392 = .ok (.iaload, 1) := by decide +kernel
theorem dL_law_393 : decode cL_law 393 = .ok (.aload_n 0, 1) := by decide +kernel
theorem dL_law_394 : decode cL_law 394 = .ok (.iload_n 3, 1) := by decide +kernel
theorem dL_law_395 : decode cL_law 395 = .ok (.iconst 3, 1) := by decide +kernel
theorem dL_law_396 : decode cL_law 396 = .ok (.iadd, 1) := by decide +kernel
theorem dL_law_397 : decode cL_law 397 = .ok (.iaload, 1) := by decide +kernel
theorem dL_law_398 : decode cL_law 398 = .ok (.invokevirtual 39, 3) := by decide +kernel
theorem dL_law_401 : decode cL_law 401 = .ok (.if_icmp .eq 948, 3) := by decide +kernel
theorem dL_law_404 : decode cL_law 404 = .ok (.iconst 0, 1) := by decide +kernel
theorem dL_law_405 : decode cL_law 405 = .ok (.ireturn, 1) := by decide +kernel
theorem dL_law_406 : decode cL_law 406 = .ok (.aload_n 1, 1) := by decide +kernel
theorem dL_law_407 : decode cL_law 407 = .ok (.aload_n 0, 1) := by decide +kernel
theorem dL_law_408 : decode cL_law 408 = .ok (.iload_n 3, 1) := by decide +kernel
theorem dL_law_409 : decode cL_law 409 = .ok (.iconst 1, 1) := by decide +kernel
theorem dL_law_410 : decode cL_law 410 = .ok (.iadd, 1) := by decide +kernel
theorem dL_law_411 : decode cL_law 411 = .ok (.iaload, 1) := by decide +kernel
theorem dL_law_412 : decode cL_law 412 = .ok (.invokevirtual 40, 3) := by decide +kernel
theorem dL_law_415 : decode cL_law 415 = .ok (.aload_n 2, 1) := by decide +kernel
theorem dL_law_416 : decode cL_law 416 = .ok (.aload_n 0, 1) := by decide +kernel
theorem dL_law_417 : decode cL_law 417 = .ok (.iload_n 3, 1) := by decide +kernel
theorem dL_law_418 : decode cL_law 418 = .ok (.iconst 1, 1) := by decide +kernel
theorem dL_law_419 : decode cL_law 419 = .ok (.iadd, 1) := by decide +kernel
theorem dL_law_420 : decode cL_law 420 = .ok (.iaload, 1) := by decide +kernel
theorem dL_law_421 : decode cL_law 421 = .ok (.invokevirtual 43, 3) := by decide +kernel
theorem dL_law_424 : decode cL_law 424 = .ok (.if_icmp .eq 925, 3) := by decide +kernel
theorem dL_law_427 : decode cL_law 427 = .ok (.iconst 0, 1) := by decide +kernel
theorem dL_law_428 : decode cL_law 428 = .ok (.ireturn, 1) := by decide +kernel
theorem dL_law_429 : decode cL_law 429 = .ok (.aload_n 1, 1) := by decide +kernel
theorem dL_law_430 : decode cL_law 430 = .ok (.aload_n 0, 1) := by decide +kernel
theorem dL_law_431 : decode cL_law 431 = .ok (.iload_n 3, 1) := by decide +kernel
theorem dL_law_432 : decode cL_law 432 = .ok (.iconst 1, 1) := by decide +kernel
theorem dL_law_433 : decode cL_law 433 = .ok (.iadd, 1) := by decide +kernel
theorem dL_law_434 : decode cL_law 434 = .ok (.iaload, 1) := by decide +kernel
theorem dL_law_435 : decode cL_law 435 = .ok (.invokevirtual 44, 3) := by decide +kernel
theorem dL_law_438 : decode cL_law 438 = .ok (.aload_n 2, 1) := by decide +kernel
theorem dL_law_439 : decode cL_law 439 = .ok (.aload_n 0, 1) := by decide +kernel
theorem dL_law_440 : decode cL_law 440 = .ok (.iload_n 3, 1) := by decide +kernel
theorem dL_law_441 : decode cL_law 441 = .ok (.iconst 1, 1) := by decide +kernel
theorem dL_law_442 : decode cL_law 442 = .ok (.iadd, 1) := by decide +kernel
theorem dL_law_443 : decode cL_law 443 = .ok (.iaload, 1) := by decide +kernel
theorem dL_law_444 : decode cL_law 444 = .ok (.invokevirtual 47, 3) := by decide +kernel
theorem dL_law_447 : decode cL_law 447 = .ok (.if_icmp .eq 902, 3) := by decide +kernel
theorem dL_law_450 : decode cL_law 450 = .ok (.iconst 0, 1) := by decide +kernel
theorem dL_law_451 : decode cL_law 451 = .ok (.ireturn, 1) := by decide +kernel
theorem dL_law_452 : decode cL_law 452 = .ok (.aload_n 1, 1) := by decide +kernel
theorem dL_law_453 : decode cL_law 453 = .ok (.aload_n 0, 1) := by decide +kernel
theorem dL_law_454 : decode cL_law 454 = .ok (.iload_n 3, 1) := by decide +kernel
theorem dL_law_455 : decode cL_law 455 = .ok (.iconst 1, 1) := by decide +kernel
theorem dL_law_456 : decode cL_law 456 = .ok (.iadd, 1) := by decide +kernel
theorem dL_law_457 : decode cL_law 457 = .ok (.iaload, 1) := by decide +kernel
theorem dL_law_458 : decode cL_law 458 = .ok (.invokevirtual 48, 3) := by decide +kernel
theorem dL_law_461 : decode cL_law 461 = .ok (.aload_n 2, 1) := by decide +kernel
theorem dL_law_462 : decode cL_law 462 = .ok (.aload_n 0, 1) := by decide +kernel
theorem dL_law_463 : decode cL_law 463 = .ok (.iload_n 3, 1) := by decide +kernel
theorem dL_law_464 : decode cL_law 464 = .ok (.iconst 1, 1) := by decide +kernel
theorem dL_law_465 : decode cL_law 465 = .ok (.iadd, 1) := by decide +kernel
theorem dL_law_466 : decode cL_law 466 = .ok (.iaload, 1) := by decide +kernel
theorem dL_law_467 : decode cL_law 467 = .ok (.invokevirtual 51, 3) := by decide +kernel
theorem dL_law_470 : decode cL_law 470 = .ok (.if_icmp .eq 879, 3) := by decide +kernel
theorem dL_law_473 : decode cL_law 473 = .ok (.iconst 0, 1) := by decide +kernel
theorem dL_law_474 : decode cL_law 474 = .ok (.ireturn, 1) := by decide +kernel
theorem dL_law_475 : decode cL_law 475 = .ok (.aload_n 1, 1) := by decide +kernel
theorem dL_law_476 : decode cL_law 476 = .ok (.aload_n 0, 1) := by decide +kernel
theorem dL_law_477 : decode cL_law 477 = .ok (.iload_n 3, 1) := by decide +kernel
theorem dL_law_478 : decode cL_law 478 = .ok (.iconst 1, 1) := by decide +kernel
theorem dL_law_479 : decode cL_law 479 = .ok (.iadd, 1) := by decide +kernel
theorem dL_law_480 : decode cL_law 480 = .ok (.iaload, 1) := by decide +kernel
theorem dL_law_481 : decode cL_law 481 = .ok (.invokevirtual 52, 3) := by decide +kernel
theorem dL_law_484 : decode cL_law 484 = .ok (.aload_n 2, 1) := by decide +kernel
theorem dL_law_485 : decode cL_law 485 = .ok (.aload_n 0, 1) := by decide +kernel
theorem dL_law_486 : decode cL_law 486 = .ok (.iload_n 3, 1) := by decide +kernel
theorem dL_law_487 : decode cL_law 487 = .ok (.iconst 1, 1) := by decide +kernel
theorem dL_law_488 : decode cL_law 488 = .ok (.iadd, 1) := by decide +kernel
theorem dL_law_489 : decode cL_law 489 = .ok (.iaload, 1) := by decide +kernel
theorem dL_law_490 : decode cL_law 490 = .ok (.invokevirtual 55, 3) := by decide +kernel
theorem dL_law_493 : decode cL_law 493 = .ok (.if_icmp .eq 856, 3) := by decide +kernel
theorem dL_law_496 : decode cL_law 496 = .ok (.iconst 0, 1) := by decide +kernel
theorem dL_law_497 : decode cL_law 497 = .ok (.ireturn, 1) := by decide +kernel
theorem dL_law_498 : decode cL_law 498 = .ok (.aload_n 1, 1) := by decide +kernel
theorem dL_law_499 : decode cL_law 499 = .ok (.aload_n 0, 1) := by decide +kernel
theorem dL_law_500 : decode cL_law 500 = .ok (.iload_n 3, 1) := by decide +kernel
theorem dL_law_501 : decode cL_law 501 = .ok (.iconst 1, 1) := by decide +kernel
theorem dL_law_502 : decode cL_law 502 = .ok (.iadd, 1) := by decide +kernel
theorem dL_law_503 : decode cL_law 503 = .ok (.iaload, 1) := by decide +kernel
theorem dL_law_504 : decode cL_law 504 = .ok (.aload_n 0, 1) := by decide +kernel
theorem dL_law_505 : decode cL_law 505 = .ok (.iload_n 3, 1) := by decide +kernel
theorem dL_law_506 : decode cL_law 506 = .ok (.iconst 2, 1) := by decide +kernel
theorem dL_law_507 : decode cL_law 507 = .ok (.iadd, 1) := by decide +kernel
theorem dL_law_508 : decode cL_law 508 = .ok (.iaload, 1) := by decide +kernel
theorem dL_law_509 : decode cL_law 509 = .ok (.aload_n 0, 1) := by decide +kernel
theorem dL_law_510 : decode cL_law 510 = .ok (.iload_n 3, 1) := by decide +kernel
theorem dL_law_511 : decode cL_law 511 = .ok (.iconst 3, 1) := by decide +kernel
theorem dL_law_512 : decode cL_law 512 = .ok (.iadd, 1) := by decide +kernel
theorem dL_law_513 : decode cL_law 513 = .ok (.iaload, 1) := by decide +kernel
theorem dL_law_514 : decode cL_law 514 = .ok (.invokevirtual 56, 3) := by decide +kernel
theorem dL_law_517 : decode cL_law 517 = .ok (.aload_n 2, 1) := by decide +kernel
theorem dL_law_518 : decode cL_law 518 = .ok (.aload_n 0, 1) := by decide +kernel
theorem dL_law_519 : decode cL_law 519 = .ok (.iload_n 3, 1) := by decide +kernel
theorem dL_law_520 : decode cL_law 520 = .ok (.iconst 1, 1) := by decide +kernel
theorem dL_law_521 : decode cL_law 521 = .ok (.iadd, 1) := by decide +kernel
theorem dL_law_522 : decode cL_law 522 = .ok (.iaload, 1) := by decide +kernel
theorem dL_law_523 : decode cL_law 523 = .ok (.aload_n 0, 1) := by decide +kernel
theorem dL_law_524 : decode cL_law 524 = .ok (.iload_n 3, 1) := by decide +kernel
theorem dL_law_525 : decode cL_law 525 = .ok (.iconst 2, 1) := by decide +kernel
theorem dL_law_526 : decode cL_law 526 = .ok (.iadd, 1) := by decide +kernel
theorem dL_law_527 : decode cL_law 527 = .ok (.iaload, 1) := by decide +kernel
theorem dL_law_528 : decode cL_law 528 = .ok (.aload_n 0, 1) := by decide +kernel
theorem dL_law_529 : decode cL_law 529 = .ok (.iload_n 3, 1) := by decide +kernel
theorem dL_law_530 : decode cL_law 530 = .ok (.iconst 3, 1) := by decide +kernel
theorem dL_law_531 : decode cL_law 531 = .ok (.iadd, 1) := by decide +kernel
theorem dL_law_532 : decode cL_law 532 = .ok (.iaload, 1) := by decide +kernel
theorem dL_law_533 : decode cL_law 533 = .ok (.invokevirtual 59, 3) := by decide +kernel
theorem dL_law_536 : decode cL_law 536 = .ok (.if_icmp .eq 813, 3) := by decide +kernel
theorem dL_law_539 : decode cL_law 539 = .ok (.iconst 0, 1) := by decide +kernel
theorem dL_law_540 : decode cL_law 540 = .ok (.ireturn, 1) := by decide +kernel
theorem dL_law_541 : decode cL_law 541 = .ok (.aload_n 1, 1) := by decide +kernel
theorem dL_law_542 : decode cL_law 542 = .ok (.aload_n 0, 1) := by decide +kernel
theorem dL_law_543 : decode cL_law 543 = .ok (.iload_n 3, 1) := by decide +kernel
theorem dL_law_544 : decode cL_law 544 = .ok (.iconst 1, 1) := by decide +kernel
theorem dL_law_545 : decode cL_law 545 = .ok (.iadd, 1) := by decide +kernel
theorem dL_law_546 : decode cL_law 546 = .ok (.iaload, 1) := by decide +kernel
theorem dL_law_547 : decode cL_law 547 = .ok (.invokevirtual 60, 3) := by decide +kernel
theorem dL_law_550 : decode cL_law 550 = .ok (.aload_n 2, 1) := by decide +kernel
theorem dL_law_551 : decode cL_law 551 = .ok (.aload_n 0, 1) := by decide +kernel
theorem dL_law_552 : decode cL_law 552 = .ok (.iload_n 3, 1) := by decide +kernel
theorem dL_law_553 : decode cL_law 553 = .ok (.iconst 1, 1) := by decide +kernel
theorem dL_law_554 : decode cL_law 554 = .ok (.iadd, 1) := by decide +kernel
theorem dL_law_555 : decode cL_law 555 = .ok (.iaload, 1) := by decide +kernel
theorem dL_law_556 : decode cL_law 556 = .ok (.invokevirtual 63, 3) := by decide +kernel
theorem dL_law_559 : decode cL_law 559 = .ok (.if_icmp .eq 790, 3) := by decide +kernel
theorem dL_law_562 : decode cL_law 562 = .ok (.iconst 0, 1) := by decide +kernel
theorem dL_law_563 : decode cL_law 563 = .ok (.ireturn, 1) := by decide +kernel
theorem dL_law_564 : decode cL_law 564 = .ok (.aload_n 1, 1) := by decide +kernel
theorem dL_law_565 : decode cL_law 565 = .ok (.aload_n 0, 1) := by decide +kernel
theorem dL_law_566 : decode cL_law 566 = .ok (.iload_n 3, 1) := by decide +kernel
theorem dL_law_567 : decode cL_law 567 = .ok (.iconst 1, 1) := by decide +kernel
theorem dL_law_568 : decode cL_law 568 = .ok (.iadd, 1) := by decide +kernel
theorem dL_law_569 : decode cL_law 569 = .ok (.iaload, 1) := by decide +kernel
theorem dL_law_570 : decode cL_law 570 = .ok (.invokevirtual 64, 3) := by decide +kernel
theorem dL_law_573 : decode cL_law 573 = .ok (.aload_n 2, 1) := by decide +kernel
theorem dL_law_574 : decode cL_law 574 = .ok (.aload_n 0, 1) := by decide +kernel
theorem dL_law_575 : decode cL_law 575 = .ok (.iload_n 3, 1) := by decide +kernel
theorem dL_law_576 : decode cL_law 576 = .ok (.iconst 1, 1) := by decide +kernel
theorem dL_law_577 : decode cL_law 577 = .ok (.iadd, 1) := by decide +kernel
theorem dL_law_578 : decode cL_law 578 = .ok (.iaload, 1) := by decide +kernel
theorem dL_law_579 : decode cL_law 579 = .ok (.invokevirtual 67, 3) := by decide +kernel
theorem dL_law_582 : decode cL_law 582 = .ok (.if_icmp .eq 767, 3) := by decide +kernel
theorem dL_law_585 : decode cL_law 585 = .ok (.iconst 0, 1) := by decide +kernel
theorem dL_law_586 : decode cL_law 586 = .ok (.ireturn, 1) := by decide +kernel
theorem dL_law_587 : decode cL_law 587 = .ok (.aload_n 1, 1) := by decide +kernel
theorem dL_law_588 : decode cL_law 588 = .ok (.aload_n 0, 1) := by decide +kernel
theorem dL_law_589 : decode cL_law 589 = .ok (.iload_n 3, 1) := by decide +kernel
theorem dL_law_590 : decode cL_law 590 = .ok (.iconst 1, 1) := by decide +kernel
theorem dL_law_591 : decode cL_law 591 = .ok (.iadd, 1) := by decide +kernel
theorem dL_law_592 : decode cL_law 592 = .ok (.iaload, 1) := by decide +kernel
theorem dL_law_593 : decode cL_law 593 = .ok (.aload_n 0, 1) := by decide +kernel
theorem dL_law_594 : decode cL_law 594 = .ok (.iload_n 3, 1) := by decide +kernel
theorem dL_law_595 : decode cL_law 595 = .ok (.iconst 2, 1) := by decide +kernel
theorem dL_law_596 : decode cL_law 596 = .ok (.iadd, 1) := by decide +kernel
theorem dL_law_597 : decode cL_law 597 = .ok (.iaload, 1) := by decide +kernel
theorem dL_law_598 : decode cL_law 598 = .ok (.invokevirtual 68, 3) := by decide +kernel
theorem dL_law_601 : decode cL_law 601 = .ok (.aload_n 2, 1) := by decide +kernel
theorem dL_law_602 : decode cL_law 602 = .ok (.aload_n 0, 1) := by decide +kernel
theorem dL_law_603 : decode cL_law 603 = .ok (.iload_n 3, 1) := by decide +kernel
theorem dL_law_604 : decode cL_law 604 = .ok (.iconst 1, 1) := by decide +kernel
theorem dL_law_605 : decode cL_law 605 = .ok (.iadd, 1) := by decide +kernel
theorem dL_law_606 : decode cL_law 606 = .ok (.iaload, 1) := by decide +kernel
theorem dL_law_607 : decode cL_law 607 = .ok (.aload_n 0, 1) := by decide +kernel
theorem dL_law_608 : decode cL_law 608 = .ok (.iload_n 3, 1) := by decide +kernel
theorem dL_law_609 : decode cL_law 609 = .ok (.iconst 2, 1) := by decide +kernel
theorem dL_law_610 : decode cL_law 610 = .ok (.iadd, 1) := by decide +kernel
theorem dL_law_611 : decode cL_law 611 = .ok (.iaload, 1) := by decide +kernel
theorem dL_law_612 : decode cL_law 612 = .ok (.invokevirtual 71, 3) := by decide +kernel
theorem dL_law_615 : decode cL_law 615 = .ok (.if_icmp .eq 734, 3) := by decide +kernel
theorem dL_law_618 : decode cL_law 618 = .ok (.iconst 0, 1) := by decide +kernel
theorem dL_law_619 : decode cL_law 619 = .ok (.ireturn, 1) := by decide +kernel
theorem dL_law_620 : decode cL_law 620 = .ok (.aload_n 1, 1) := by decide +kernel
theorem dL_law_621 : decode cL_law 621 = .ok (.aload_n 0, 1) := by decide +kernel
theorem dL_law_622 : decode cL_law 622 = .ok (.iload_n 3, 1) := by decide +kernel
theorem dL_law_623 : decode cL_law 623 = .ok (.iconst 1, 1) := by decide +kernel
theorem dL_law_624 : decode cL_law 624 = .ok (.iadd, 1) := by decide +kernel
theorem dL_law_625 : decode cL_law 625 = .ok (.iaload, 1) := by decide +kernel
theorem dL_law_626 : decode cL_law 626 = .ok (.invokevirtual 72, 3) := by decide +kernel
theorem dL_law_629 : decode cL_law 629 = .ok (.aload_n 2, 1) := by decide +kernel
theorem dL_law_630 : decode cL_law 630 = .ok (.aload_n 0, 1) := by decide +kernel
theorem dL_law_631 : decode cL_law 631 = .ok (.iload_n 3, 1) := by decide +kernel
theorem dL_law_632 : decode cL_law 632 = .ok (.iconst 1, 1) := by decide +kernel
theorem dL_law_633 : decode cL_law 633 = .ok (.iadd, 1) := by decide +kernel
theorem dL_law_634 : decode cL_law 634 = .ok (.iaload, 1) := by decide +kernel
theorem dL_law_635 : decode cL_law 635 = .ok (.invokevirtual 75, 3) := by decide +kernel
theorem dL_law_638 : decode cL_law 638 = .ok (.if_icmp .eq 711, 3) := by decide +kernel
theorem dL_law_641 : decode cL_law 641 = .ok (.iconst 0, 1) := by decide +kernel
theorem dL_law_642 : decode cL_law 642 = .ok (.ireturn, 1) := by decide +kernel
theorem dL_law_643 : decode cL_law 643 = .ok (.aload_n 1, 1) := by decide +kernel
theorem dL_law_644 : decode cL_law 644 = .ok (.aload_n 0, 1) := by decide +kernel
theorem dL_law_645 : decode cL_law 645 = .ok (.iload_n 3, 1) := by decide +kernel
theorem dL_law_646 : decode cL_law 646 = .ok (.iconst 1, 1) := by decide +kernel
theorem dL_law_647 : decode cL_law 647 = .ok (.iadd, 1) := by decide +kernel
theorem dL_law_648 : decode cL_law 648 = .ok (.iaload, 1) := by decide +kernel
theorem dL_law_649 : decode cL_law 649 = .ok (.aload_n 0, 1) := by decide +kernel
theorem dL_law_650 : decode cL_law 650 = .ok (.iload_n 3, 1) := by decide +kernel
theorem dL_law_651 : decode cL_law 651 = .ok (.iconst 2, 1) := by decide +kernel
theorem dL_law_652 : decode cL_law 652 = .ok (.iadd, 1) := by decide +kernel
theorem dL_law_653 : decode cL_law 653 = .ok (.iaload, 1) := by decide +kernel
theorem dL_law_654 : decode cL_law 654 = .ok (.invokevirtual 76, 3) := by decide +kernel
theorem dL_law_657 : decode cL_law 657 = .ok (.aload_n 2, 1) := by decide +kernel
theorem dL_law_658 : decode cL_law 658 = .ok (.aload_n 0, 1) := by decide +kernel
theorem dL_law_659 : decode cL_law 659 = .ok (.iload_n 3, 1) := by decide +kernel
theorem dL_law_660 : decode cL_law 660 = .ok (.iconst 1, 1) := by decide +kernel
theorem dL_law_661 : decode cL_law 661 = .ok (.iadd, 1) := by decide +kernel
theorem dL_law_662 : decode cL_law 662 = .ok (.iaload, 1) := by decide +kernel
theorem dL_law_663 : decode cL_law 663 = .ok (.aload_n 0, 1) := by decide +kernel
theorem dL_law_664 : decode cL_law 664 = .ok (.iload_n 3, 1) := by decide +kernel
theorem dL_law_665 : decode cL_law 665 = .ok (.iconst 2, 1) := by decide +kernel
theorem dL_law_666 : decode cL_law 666 = .ok (.iadd, 1) := by decide +kernel
theorem dL_law_667 : decode cL_law 667 = .ok (.iaload, 1) := by decide +kernel
theorem dL_law_668 : decode cL_law 668 = .ok (.invokevirtual 79, 3) := by decide +kernel
theorem dL_law_671 : decode cL_law 671 = .ok (.if_icmp .eq 678, 3) := by decide +kernel
theorem dL_law_674 : decode cL_law 674 = .ok (.iconst 0, 1) := by decide +kernel
theorem dL_law_675 : decode cL_law 675 = .ok (.ireturn, 1) := by decide +kernel
theorem dL_law_676 : decode cL_law 676 = .ok (.aload_n 1, 1) := by decide +kernel
theorem dL_law_677 : decode cL_law 677 = .ok (.aload_n 0, 1) := by decide +kernel
theorem dL_law_678 : decode cL_law 678 = .ok (.iload_n 3, 1) := by decide +kernel
theorem dL_law_679 : decode cL_law 679 = .ok (.iconst 1, 1) := by decide +kernel
theorem dL_law_680 : decode cL_law 680 = .ok (.iadd, 1) := by decide +kernel
theorem dL_law_681 : decode cL_law 681 = .ok (.iaload, 1) := by decide +kernel
theorem dL_law_682 : decode cL_law 682 = .ok (.aload_n 0, 1) := by decide +kernel
theorem dL_law_683 : decode cL_law 683 = .ok (.iload_n 3, 1) := by decide +kernel
theorem dL_law_684 : decode cL_law 684 = .ok (.iconst 2, 1) := by decide +kernel
theorem dL_law_685 : decode cL_law 685 = .ok (.iadd, 1) := by decide +kernel
theorem dL_law_686 : decode cL_law 686 = .ok (.iaload, 1) := by decide +kernel
theorem dL_law_687 : decode cL_law 687 = .ok (.invokevirtual 80, 3) := by decide +kernel
theorem dL_law_690 : decode cL_law 690 = .ok (.aload_n 2, 1) := by decide +kernel
theorem dL_law_691 : decode cL_law 691 = .ok (.aload_n 0, 1) := by decide +kernel
theorem dL_law_692 : decode cL_law 692 = .ok (.iload_n 3, 1) := by decide +kernel
theorem dL_law_693 : decode cL_law 693 = .ok (.iconst 1, 1) := by decide +kernel
theorem dL_law_694 : decode cL_law 694 = .ok (.iadd, 1) := by decide +kernel
theorem dL_law_695 : decode cL_law 695 = .ok (.iaload, 1) := by decide +kernel
theorem dL_law_696 : decode cL_law 696 = .ok (.aload_n 0, 1) := by decide +kernel
theorem dL_law_697 : decode cL_law 697 = .ok (.iload_n 3, 1) := by decide +kernel
theorem dL_law_698 : decode cL_law 698 = .ok (.iconst 2, 1) := by decide +kernel
theorem dL_law_699 : decode cL_law 699 = .ok (.iadd, 1) := by decide +kernel
theorem dL_law_700 : decode cL_law 700 = .ok (.iaload, 1) := by decide +kernel
theorem dL_law_701 : decode cL_law 701 = .ok (.invokevirtual 83, 3) := by decide +kernel
theorem dL_law_704 : decode cL_law 704 = .ok (.if_icmp .eq 645, 3) := by decide +kernel
theorem dL_law_707 : decode cL_law 707 = .ok (.iconst 0, 1) := by decide +kernel
theorem dL_law_708 : decode cL_law 708 = .ok (.ireturn, 1) := by decide +kernel
theorem dL_law_709 : decode cL_law 709 = .ok (.aload_n 1, 1) := by decide +kernel
theorem dL_law_710 : decode cL_law 710 = .ok (.aload_n 0, 1) := by decide +kernel
theorem dL_law_711 : decode cL_law 711 = .ok (.iload_n 3, 1) := by decide +kernel
theorem dL_law_712 : decode cL_law 712 = .ok (.iconst 1, 1) := by decide +kernel
theorem dL_law_713 : decode cL_law 713 = .ok (.iadd, 1) := by decide +kernel
theorem dL_law_714 : decode cL_law 714 = .ok (.iaload, 1) := by decide +kernel
theorem dL_law_715 : decode cL_law 715 = .ok (.aload_n 0, 1) := by decide +kernel
theorem dL_law_716 : decode cL_law 716 = .ok (.iload_n 3, 1) := by decide +kernel
theorem dL_law_717 : decode cL_law 717 = .ok (.iconst 2, 1) := by decide +kernel
theorem dL_law_718 : decode cL_law 718 = .ok (.iadd, 1) := by decide +kernel
theorem dL_law_719 : decode cL_law 719 = .ok (.iaload, 1) := by decide +kernel
theorem dL_law_720 : decode cL_law 720 = .ok (.invokevirtual 84, 3) := by decide +kernel
theorem dL_law_723 : decode cL_law 723 = .ok (.aload_n 2, 1) := by decide +kernel
theorem dL_law_724 : decode cL_law 724 = .ok (.aload_n 0, 1) := by decide +kernel
theorem dL_law_725 : decode cL_law 725 = .ok (.iload_n 3, 1) := by decide +kernel
theorem dL_law_726 : decode cL_law 726 = .ok (.iconst 1, 1) := by decide +kernel
theorem dL_law_727 : decode cL_law 727 = .ok (.iadd, 1) := by decide +kernel
theorem dL_law_728 : decode cL_law 728 = .ok (.iaload, 1) := by decide +kernel
theorem dL_law_729 : decode cL_law 729 = .ok (.aload_n 0, 1) := by decide +kernel
theorem dL_law_730 : decode cL_law 730 = .ok (.iload_n 3, 1) := by decide +kernel
theorem dL_law_731 : decode cL_law 731 = .ok (.iconst 2, 1) := by decide +kernel
theorem dL_law_732 : decode cL_law 732 = .ok (.iadd, 1) := by decide +kernel
theorem dL_law_733 : decode cL_law 733 = .ok (.iaload, 1) := by decide +kernel
theorem dL_law_734 : decode cL_law 734 = .ok (.invokevirtual 87, 3) := by decide +kernel
theorem dL_law_737 : decode cL_law 737 = .ok (.if_icmp .eq 612, 3) := by decide +kernel
theorem dL_law_740 : decode cL_law 740 = .ok (.iconst 0, 1) := by decide +kernel
theorem dL_law_741 : decode cL_law 741 = .ok (.ireturn, 1) := by decide +kernel
theorem dL_law_742 : decode cL_law 742 = .ok (.aload_n 1, 1) := by decide +kernel
theorem dL_law_743 : decode cL_law 743 = .ok (.aload_n 0, 1) := by decide +kernel
theorem dL_law_744 : decode cL_law 744 = .ok (.iload_n 3, 1) := by decide +kernel
theorem dL_law_745 : decode cL_law 745 = .ok (.iconst 1, 1) := by decide +kernel
theorem dL_law_746 : decode cL_law 746 = .ok (.iadd, 1) := by decide +kernel
theorem dL_law_747 : decode cL_law 747 = .ok (.iaload, 1) := by decide +kernel
theorem dL_law_748 : decode cL_law 748 = .ok (.invokevirtual 88, 3) := by decide +kernel
theorem dL_law_751 : decode cL_law 751 = .ok (.aload_n 2, 1) := by decide +kernel
theorem dL_law_752 : decode cL_law 752 = .ok (.aload_n 0, 1) := by decide +kernel
theorem dL_law_753 : decode cL_law 753 = .ok (.iload_n 3, 1) := by decide +kernel
theorem dL_law_754 : decode cL_law 754 = .ok (.iconst 1, 1) := by decide +kernel
theorem dL_law_755 : decode cL_law 755 = .ok (.iadd, 1) := by decide +kernel
theorem dL_law_756 : decode cL_law 756 = .ok (.iaload, 1) := by decide +kernel
theorem dL_law_757 : decode cL_law 757 = .ok (.invokevirtual 91, 3) := by decide +kernel
theorem dL_law_760 : decode cL_law 760 = .ok (.if_icmp .eq 589, 3) := by decide +kernel
theorem dL_law_763 : decode cL_law 763 = .ok (.iconst 0, 1) := by decide +kernel
theorem dL_law_764 : decode cL_law 764 = .ok (.ireturn, 1) := by decide +kernel
theorem dL_law_765 : decode cL_law 765 = .ok (.aload_n 1, 1) := by decide +kernel
theorem dL_law_766 : decode cL_law 766 = .ok (.aload_n 0, 1) := by decide +kernel
theorem dL_law_767 : decode cL_law 767 = .ok (.iload_n 3, 1) := by decide +kernel
theorem dL_law_768 : decode cL_law 768 = .ok (.iconst 1, 1) := by decide +kernel
theorem dL_law_769 : decode cL_law 769 = .ok (.iadd, 1) := by decide +kernel
theorem dL_law_770 : decode cL_law 770 = .ok (.iaload, 1) := by decide +kernel
theorem dL_law_771 : decode cL_law 771 = .ok (.invokevirtual 92, 3) := by decide +kernel
theorem dL_law_774 : decode cL_law 774 = .ok (.aload_n 2, 1) := by decide +kernel
theorem dL_law_775 : decode cL_law 775 = .ok (.aload_n 0, 1) := by decide +kernel
theorem dL_law_776 : decode cL_law 776 = .ok (.iload_n 3, 1) := by decide +kernel
theorem dL_law_777 : decode cL_law 777 = .ok (.iconst 1, 1) := by decide +kernel
theorem dL_law_778 : decode cL_law 778 = .ok (.iadd, 1) := by decide +kernel
theorem dL_law_779 : decode cL_law 779 = .ok (.iaload, 1) := by decide +kernel
theorem dL_law_780 : decode cL_law 780 = .ok (.invokevirtual 95, 3) := by decide +kernel
theorem dL_law_783 : decode cL_law 783 = .ok (.if_icmp .eq 566, 3) := by decide +kernel
theorem dL_law_786 : decode cL_law 786 = .ok (.iconst 0, 1) := by decide +kernel
theorem dL_law_787 : decode cL_law 787 = .ok (.ireturn, 1) := by decide +kernel
theorem dL_law_788 : decode cL_law 788 = .ok (.aload_n 1, 1) := by decide +kernel
theorem dL_law_789 : decode cL_law 789 = .ok (.aload_n 0, 1) := by decide +kernel
theorem dL_law_790 : decode cL_law 790 = .ok (.iload_n 3, 1) := by decide +kernel
theorem dL_law_791 : decode cL_law 791 = .ok (.iconst 1, 1) := by decide +kernel
theorem dL_law_792 : decode cL_law 792 = .ok (.iadd, 1) := by decide +kernel
theorem dL_law_793 : decode cL_law 793 = .ok (.iaload, 1) := by decide +kernel
theorem dL_law_794 : decode cL_law 794 = .ok (.aload_n 0, 1) := by decide +kernel
theorem dL_law_795 : decode cL_law 795 = .ok (.iload_n 3, 1) := by decide +kernel
theorem dL_law_796 : decode cL_law 796 = .ok (.iconst 2, 1) := by decide +kernel
theorem dL_law_797 : decode cL_law 797 = .ok (.iadd, 1) := by decide +kernel
theorem dL_law_798 : decode cL_law 798 = .ok (.iaload, 1) := by decide +kernel
theorem dL_law_799 : decode cL_law 799 = .ok (.invokevirtual 96, 3) := by decide +kernel
theorem dL_law_802 : decode cL_law 802 = .ok (.aload_n 2, 1) := by decide +kernel
theorem dL_law_803 : decode cL_law 803 = .ok (.aload_n 0, 1) := by decide +kernel
theorem dL_law_804 : decode cL_law 804 = .ok (.iload_n 3, 1) := by decide +kernel
theorem dL_law_805 : decode cL_law 805 = .ok (.iconst 1, 1) := by decide +kernel
theorem dL_law_806 : decode cL_law 806 = .ok (.iadd, 1) := by decide +kernel
theorem dL_law_807 : decode cL_law 807 = .ok (.iaload, 1) := by decide +kernel
theorem dL_law_808 : decode cL_law 808 = .ok (.aload_n 0, 1) := by decide +kernel
theorem dL_law_809 : decode cL_law 809 = .ok (.iload_n 3, 1) := by decide +kernel
theorem dL_law_810 : decode cL_law 810 = .ok (.iconst 2, 1) := by decide +kernel
theorem dL_law_811 : decode cL_law 811 = .ok (.iadd, 1) := by decide +kernel
theorem dL_law_812 : decode cL_law 812 = .ok (.iaload, 1) := by decide +kernel
theorem dL_law_813 : decode cL_law 813 = .ok (.invokevirtual 99, 3) := by decide +kernel
theorem dL_law_816 : decode cL_law 816 = .ok (.if_icmp .eq 533, 3) := by decide +kernel
theorem dL_law_819 : decode cL_law 819 = .ok (.iconst 0, 1) := by decide +kernel
theorem dL_law_820 : decode cL_law 820 = .ok (.ireturn, 1) := by decide +kernel
theorem dL_law_821 : decode cL_law 821 = .ok (.aload_n 1, 1) := by decide +kernel
theorem dL_law_822 : decode cL_law 822 = .ok (.aload_n 0, 1) := by decide +kernel
theorem dL_law_823 : decode cL_law 823 = .ok (.iload_n 3, 1) := by decide +kernel
theorem dL_law_824 : decode cL_law 824 = .ok (.iconst 1, 1) := by decide +kernel
theorem dL_law_825 : decode cL_law 825 = .ok (.iadd, 1) := by decide +kernel
theorem dL_law_826 : decode cL_law 826 = .ok (.iaload, 1) := by decide +kernel
theorem dL_law_827 : decode cL_law 827 = .ok (.aload_n 0, 1) := by decide +kernel
theorem dL_law_828 : decode cL_law 828 = .ok (.iload_n 3, 1) := by decide +kernel
theorem dL_law_829 : decode cL_law 829 = .ok (.iconst 2, 1) := by decide +kernel
theorem dL_law_830 : decode cL_law 830 = .ok (.iadd, 1) := by decide +kernel
theorem dL_law_831 : decode cL_law 831 = .ok (.iaload, 1) := by decide +kernel
theorem dL_law_832 : decode cL_law 832 = .ok (.invokevirtual 100, 3) := by decide +kernel
theorem dL_law_835 : decode cL_law 835 = .ok (.aload_n 2, 1) := by decide +kernel
theorem dL_law_836 : decode cL_law 836 = .ok (.aload_n 0, 1) := by decide +kernel
theorem dL_law_837 : decode cL_law 837 = .ok (.iload_n 3, 1) := by decide +kernel
theorem dL_law_838 : decode cL_law 838 = .ok (.iconst 1, 1) := by decide +kernel
theorem dL_law_839 : decode cL_law 839 = .ok (.iadd, 1) := by decide +kernel
theorem dL_law_840 : decode cL_law 840 = .ok (.iaload, 1) := by decide +kernel
theorem dL_law_841 : decode cL_law 841 = .ok (.aload_n 0, 1) := by decide +kernel
theorem dL_law_842 : decode cL_law 842 = .ok (.iload_n 3, 1) := by decide +kernel
theorem dL_law_843 : decode cL_law 843 = .ok (.iconst 2, 1) := by decide +kernel
theorem dL_law_844 : decode cL_law 844 = .ok (.iadd, 1) := by decide +kernel
theorem dL_law_845 : decode cL_law 845 = .ok (.iaload, 1) := by decide +kernel
theorem dL_law_846 : decode cL_law 846 = .ok (.invokevirtual 103, 3) := by decide +kernel
theorem dL_law_849 : decode cL_law 849 = .ok (.if_icmp .eq 500, 3) := by decide +kernel
theorem dL_law_852 : decode cL_law 852 = .ok (.iconst 0, 1) := by decide +kernel
theorem dL_law_853 : decode cL_law 853 = .ok (.ireturn, 1) := by decide +kernel
theorem dL_law_854 : decode cL_law 854 = .ok (.aload_n 1, 1) := by decide +kernel
theorem dL_law_855 : decode cL_law 855 = .ok (.aload_n 0, 1) := by decide +kernel
theorem dL_law_856 : decode cL_law 856 = .ok (.iload_n 3, 1) := by decide +kernel
theorem dL_law_857 : decode cL_law 857 = .ok (.iconst 1, 1) := by decide +kernel
theorem dL_law_858 : decode cL_law 858 = .ok (.iadd, 1) := by decide +kernel
theorem dL_law_859 : decode cL_law 859 = .ok (.iaload, 1) := by decide +kernel
theorem dL_law_860 : decode cL_law 860 = .ok (.invokevirtual 104, 3) := by decide +kernel
theorem dL_law_863 : decode cL_law 863 = .ok (.aload_n 2, 1) := by decide +kernel
theorem dL_law_864 : decode cL_law 864 = .ok (.aload_n 0, 1) := by decide +kernel
theorem dL_law_865 : decode cL_law 865 = .ok (.iload_n 3, 1) := by decide +kernel
theorem dL_law_866 : decode cL_law 866 = .ok (.iconst 1, 1) := by decide +kernel
theorem dL_law_867 : decode cL_law 867 = .ok (.iadd, 1) := by decide +kernel
theorem dL_law_868 : decode cL_law 868 = .ok (.iaload, 1) := by decide +kernel
theorem dL_law_869 : decode cL_law 869 = .ok (.invokevirtual 107, 3) := by decide +kernel
theorem dL_law_872 : decode cL_law 872 = .ok (.if_icmp .eq 477, 3) := by decide +kernel
theorem dL_law_875 : decode cL_law 875 = .ok (.iconst 0, 1) := by decide +kernel
theorem dL_law_876 : decode cL_law 876 = .ok (.ireturn, 1) := by decide +kernel
theorem dL_law_877 : decode cL_law 877 = .ok (.aload_n 1, 1) := by decide +kernel
theorem dL_law_878 : decode cL_law 878 = .ok (.aload_n 0, 1) := by decide +kernel
theorem dL_law_879 : decode cL_law 879 = .ok (.iload_n 3, 1) := by decide +kernel
theorem dL_law_880 : decode cL_law 880 = .ok (.iconst 1, 1) := by decide +kernel
theorem dL_law_881 : decode cL_law 881 = .ok (.iadd, 1) := by decide +kernel
theorem dL_law_882 : decode cL_law 882 = .ok (.iaload, 1) := by decide +kernel
theorem dL_law_883 : decode cL_law 883 = .ok (.aload_n 0, 1) := by decide +kernel
theorem dL_law_884 : decode cL_law 884 = .ok (.iload_n 3, 1) := by decide +kernel
theorem dL_law_885 : decode cL_law 885 = .ok (.iconst 2, 1) := by decide +kernel
theorem dL_law_886 : decode cL_law 886 = .ok (.iadd, 1) := by decide +kernel
theorem dL_law_887 : decode cL_law 887 = .ok (.iaload, 1) := by decide +kernel
theorem dL_law_888 : decode cL_law 888 = .ok (.aload_n 0, 1) := by decide +kernel
theorem dL_law_889 : decode cL_law 889 = .ok (.iload_n 3, 1) := by decide +kernel
theorem dL_law_890 : decode cL_law 890 = .ok (.iconst 3, 1) := by decide +kernel
theorem dL_law_891 : decode cL_law 891 = .ok (.iadd, 1) := by decide +kernel
theorem dL_law_892 : decode cL_law 892 = .ok (.iaload, 1) := by decide +kernel
theorem dL_law_893 : decode cL_law 893 = .ok (.invokevirtual 108, 3) := by decide +kernel
theorem dL_law_896 : decode cL_law 896 = .ok (.aload_n 2, 1) := by decide +kernel
theorem dL_law_897 : decode cL_law 897 = .ok (.aload_n 0, 1) := by decide +kernel
theorem dL_law_898 : decode cL_law 898 = .ok (.iload_n 3, 1) := by decide +kernel
theorem dL_law_899 : decode cL_law 899 = .ok (.iconst 1, 1) := by decide +kernel
theorem dL_law_900 : decode cL_law 900 = .ok (.iadd, 1) := by decide +kernel
theorem dL_law_901 : decode cL_law 901 = .ok (.iaload, 1) := by decide +kernel
theorem dL_law_902 : decode cL_law 902 = .ok (.aload_n 0, 1) := by decide +kernel
theorem dL_law_903 : decode cL_law 903 = .ok (.iload_n 3, 1) := by decide +kernel
theorem dL_law_904 : decode cL_law 904 = .ok (.iconst 2, 1) := by decide +kernel
theorem dL_law_905 : decode cL_law 905 = .ok (.iadd, 1) := by decide +kernel
theorem dL_law_906 : decode cL_law 906 = .ok (.iaload, 1) := by decide +kernel
theorem dL_law_907 : decode cL_law 907 = .ok (.aload_n 0, 1) := by decide +kernel
theorem dL_law_908 : decode cL_law 908 = .ok (.iload_n 3, 1) := by decide +kernel
theorem dL_law_909 : decode cL_law 909 = .ok (.iconst 3, 1) := by decide +kernel
theorem dL_law_910 : decode cL_law 910 = .ok (.iadd, 1) := by decide +kernel
theorem dL_law_911 : decode cL_law 911 = .ok (.iaload, 1) := by decide +kernel
theorem dL_law_912 : decode cL_law 912 = .ok (.invokevirtual 112, 3) := by decide +kernel
theorem dL_law_915 : decode cL_law 915 = .ok (.lcmp, 1) := by decide +kernel
theorem dL_law_916 : decode cL_law 916 = .ok (.ifCond .eq 433, 3) := by decide +kernel
theorem dL_law_919 : decode cL_law 919 = .ok (.iconst 0, 1) := by decide +kernel
theorem dL_law_920 : decode cL_law 920 = .ok (.ireturn, 1) := by decide +kernel
theorem dL_law_921 : decode cL_law 921 = .ok (.aload_n 1, 1) := by decide +kernel
theorem dL_law_922 : decode cL_law 922 = .ok (.aload_n 0, 1) := by decide +kernel
theorem dL_law_923 : decode cL_law 923 = .ok (.iload_n 3, 1) := by decide +kernel
theorem dL_law_924 : decode cL_law 924 = .ok (.iconst 1, 1) := by decide +kernel
theorem dL_law_925 : decode cL_law 925 = .ok (.iadd, 1) := by decide +kernel
theorem dL_law_926 : decode cL_law 926 = .ok (.iaload, 1) := by decide +kernel
theorem dL_law_927 : decode cL_law 927 = .ok (.invokevirtual 113, 3) := by decide +kernel
theorem dL_law_930 : decode cL_law 930 = .ok (.aload_n 2, 1) := by decide +kernel
theorem dL_law_931 : decode cL_law 931 = .ok (.aload_n 0, 1) := by decide +kernel
theorem dL_law_932 : decode cL_law 932 = .ok (.iload_n 3, 1) := by decide +kernel
theorem dL_law_933 : decode cL_law 933 = .ok (.iconst 1, 1) := by decide +kernel
theorem dL_law_934 : decode cL_law 934 = .ok (.iadd, 1) := by decide +kernel
theorem dL_law_935 : decode cL_law 935 = .ok (.iaload, 1) := by decide +kernel
theorem dL_law_936 : decode cL_law 936 = .ok (.invokevirtual 116, 3) := by decide +kernel
theorem dL_law_939 : decode cL_law 939 = .ok (.if_icmp .eq 410, 3) := by decide +kernel
theorem dL_law_942 : decode cL_law 942 = .ok (.iconst 0, 1) := by decide +kernel
theorem dL_law_943 : decode cL_law 943 = .ok (.ireturn, 1) := by decide +kernel
theorem dL_law_944 : decode cL_law 944 = .ok (.aload_n 1, 1) := by decide +kernel
theorem dL_law_945 : decode cL_law 945 = .ok (.aload_n 0, 1) := by decide +kernel
theorem dL_law_946 : decode cL_law 946 = .ok (.iload_n 3, 1) := by decide +kernel
theorem dL_law_947 : decode cL_law 947 = .ok (.iconst 1, 1) := by decide +kernel
theorem dL_law_948 : decode cL_law 948 = .ok (.iadd, 1) := by decide +kernel
theorem dL_law_949 : decode cL_law 949 = .ok (.iaload, 1) := by decide +kernel
theorem dL_law_950 : decode cL_law 950 = .ok (.aload_n 0, 1) := by decide +kernel
theorem dL_law_951 : decode cL_law 951 = .ok (.iload_n 3, 1) := by decide +kernel
theorem dL_law_952 : decode cL_law 952 = .ok (.iconst 2, 1) := by decide +kernel
theorem dL_law_953 : decode cL_law 953 = .ok (.iadd, 1) := by decide +kernel
theorem dL_law_954 : decode cL_law 954 = .ok (.iaload, 1) := by decide +kernel
theorem dL_law_955 : decode cL_law 955 = .ok (.invokevirtual 117, 3) := by decide +kernel
theorem dL_law_958 : decode cL_law 958 = .ok (.aload_n 2, 1) := by decide +kernel
theorem dL_law_959 : decode cL_law 959 = .ok (.aload_n 0, 1) := by decide +kernel
theorem dL_law_960 : decode cL_law 960 = .ok (.iload_n 3, 1) := by decide +kernel
theorem dL_law_961 : decode cL_law 961 = .ok (.iconst 1, 1) := by decide +kernel
theorem dL_law_962 : decode cL_law 962 = .ok (.iadd, 1) := by decide +kernel
theorem dL_law_963 : decode cL_law 963 = .ok (.iaload, 1) := by decide +kernel
theorem dL_law_964 : decode cL_law 964 = .ok (.aload_n 0, 1) := by decide +kernel
theorem dL_law_965 : decode cL_law 965 = .ok (.iload_n 3, 1) := by decide +kernel
theorem dL_law_966 : decode cL_law 966 = .ok (.iconst 2, 1) := by decide +kernel
theorem dL_law_967 : decode cL_law 967 = .ok (.iadd, 1) := by decide +kernel
theorem dL_law_968 : decode cL_law 968 = .ok (.iaload, 1) := by decide +kernel
theorem dL_law_969 : decode cL_law 969 = .ok (.invokevirtual 120, 3) := by decide +kernel
theorem dL_law_972 : decode cL_law 972 = .ok (.if_icmp .eq 377, 3) := by decide +kernel
theorem dL_law_975 : decode cL_law 975 = .ok (.iconst 0, 1) := by decide +kernel
theorem dL_law_976 : decode cL_law 976 = .ok (.ireturn, 1) := by decide +kernel
theorem dL_law_977 : decode cL_law 977 = .ok (.aload_n 1, 1) := by decide +kernel
theorem dL_law_978 : decode cL_law 978 = .ok (.invokevirtual 121, 3) := by decide +kernel
theorem dL_law_981 : decode cL_law 981 = .ok (.aload_n 2, 1) := by decide +kernel
theorem dL_law_982 : decode cL_law 982 = .ok (.invokevirtual 125, 3) := by decide +kernel
theorem dL_law_985 : decode cL_law 985 = .ok (.if_icmp .eq 364, 3) := by decide +kernel
theorem dL_law_988 : decode cL_law 988 = .ok (.iconst 0, 1) := by decide +kernel
theorem dL_law_989 : decode cL_law 989 = .ok (.ireturn, 1) := by decide +kernel
theorem dL_law_990 : decode cL_law 990 = .ok (.aload_n 1, 1) := by decide +kernel
theorem dL_law_991 : decode cL_law 991 = .ok (.invokevirtual 126, 3) := by decide +kernel
theorem dL_law_994 : decode cL_law 994 = .ok (.aload_n 2, 1) := by decide +kernel
theorem dL_law_995 : decode cL_law 995 = .ok (.invokevirtual 129, 3) := by decide +kernel
theorem dL_law_998 : decode cL_law 998 = .ok (.if_icmp .eq 351, 3) := by decide +kernel
theorem dL_law_1001 : decode cL_law 1001 = .ok (.iconst 0, 1) := by decide +kernel
theorem dL_law_1002 : decode cL_law 1002 = .ok (.ireturn, 1) := by decide +kernel
theorem dL_law_1003 : decode cL_law 1003 = .ok (.aload_n 1, 1) := by decide +kernel
theorem dL_law_1004 : decode cL_law 1004 = .ok (.aload_n 0, 1) := by decide +kernel
theorem dL_law_1005 : decode cL_law 1005 = .ok (.iload_n 3, 1) := by decide +kernel
theorem dL_law_1006 : decode cL_law 1006 = .ok (.iconst 1, 1) := by decide +kernel
theorem dL_law_1007 : decode cL_law 1007 = .ok (.iadd, 1) := by decide +kernel
theorem dL_law_1008 : decode cL_law 1008 = .ok (.iaload, 1) := by decide +kernel
theorem dL_law_1009 : decode cL_law 1009 = .ok (.aload_n 0, 1) := by decide +kernel
theorem dL_law_1010 : decode cL_law 1010 = .ok (.iload_n 3, 1) := by decide +kernel
theorem dL_law_1011 : decode cL_law 1011 = .ok (.iconst 2, 1) := by decide +kernel
theorem dL_law_1012 : decode cL_law 1012 = .ok (.iadd, 1) := by decide +kernel
theorem dL_law_1013 : decode cL_law 1013 = .ok (.iaload, 1) := by decide +kernel
theorem dL_law_1014 : decode cL_law 1014 = .ok (.invokevirtual 130, 3) := by decide +kernel
theorem dL_law_1017 : decode cL_law 1017 = .ok (.aload_n 2, 1) := by decide +kernel
theorem dL_law_1018 : decode cL_law 1018 = .ok (.aload_n 0, 1) := by decide +kernel
theorem dL_law_1019 : decode cL_law 1019 = .ok (.iload_n 3, 1) := by decide +kernel
theorem dL_law_1020 : decode cL_law 1020 = .ok (.iconst 1, 1) := by decide +kernel
theorem dL_law_1021 : decode cL_law 1021 = .ok (.iadd, 1) := by decide +kernel
theorem dL_law_1022 : decode cL_law 1022 = .ok (.iaload, 1) := by decide +kernel
theorem dL_law_1023 : decode cL_law 1023 = .ok (.aload_n 0, 1) := by decide +kernel
theorem dL_law_1024 : decode cL_law 1024 = .ok (.iload_n 3, 1) := by decide +kernel
theorem dL_law_1025 : decode cL_law 1025 = .ok (.iconst 2, 1) := by decide +kernel
theorem dL_law_1026 : decode cL_law 1026 = .ok (.iadd, 1) := by decide +kernel
theorem dL_law_1027 : decode cL_law 1027 = .ok (.iaload, 1) := by decide +kernel
theorem dL_law_1028 : decode cL_law 1028 = .ok (.invokevirtual 133, 3) := by decide +kernel
theorem dL_law_1031 : decode cL_law 1031 = .ok (.if_icmp .eq 318, 3) := by decide +kernel
theorem dL_law_1034 : decode cL_law 1034 = .ok (.iconst 0, 1) := by decide +kernel
theorem dL_law_1035 : decode cL_law 1035 = .ok (.ireturn, 1) := by decide +kernel
theorem dL_law_1036 : decode cL_law 1036 = .ok (.aload_n 1, 1) := by decide +kernel
theorem dL_law_1037 : decode cL_law 1037 = .ok (.aload_n 0, 1) := by decide +kernel
theorem dL_law_1038 : decode cL_law 1038 = .ok (.iload_n 3, 1) := by decide +kernel
theorem dL_law_1039 : decode cL_law 1039 = .ok (.iconst 1, 1) := by decide +kernel
theorem dL_law_1040 : decode cL_law 1040 = .ok (.iadd, 1) := by decide +kernel
theorem dL_law_1041 : decode cL_law 1041 = .ok (.iaload, 1) := by decide +kernel
theorem dL_law_1042 : decode cL_law 1042 = .ok (.aload_n 0, 1) := by decide +kernel
theorem dL_law_1043 : decode cL_law 1043 = .ok (.iload_n 3, 1) := by decide +kernel
theorem dL_law_1044 : decode cL_law 1044 = .ok (.iconst 2, 1) := by decide +kernel
theorem dL_law_1045 : decode cL_law 1045 = .ok (.iadd, 1) := by decide +kernel
theorem dL_law_1046 : decode cL_law 1046 = .ok (.iaload, 1) := by decide +kernel
theorem dL_law_1047 : decode cL_law 1047 = .ok (.invokevirtual 134, 3) := by decide +kernel
theorem dL_law_1050 : decode cL_law 1050 = .ok (.aload_n 2, 1) := by decide +kernel
theorem dL_law_1051 : decode cL_law 1051 = .ok (.aload_n 0, 1) := by decide +kernel
theorem dL_law_1052 : decode cL_law 1052 = .ok (.iload_n 3, 1) := by decide +kernel
theorem dL_law_1053 : decode cL_law 1053 = .ok (.iconst 1, 1) := by decide +kernel
theorem dL_law_1054 : decode cL_law 1054 = .ok (.iadd, 1) := by decide +kernel
theorem dL_law_1055 : decode cL_law 1055 = .ok (.iaload, 1) := by decide +kernel
theorem dL_law_1056 : decode cL_law 1056 = .ok (.aload_n 0, 1) := by decide +kernel
theorem dL_law_1057 : decode cL_law 1057 = .ok (.iload_n 3, 1) := by decide +kernel
theorem dL_law_1058 : decode cL_law 1058 = .ok (.iconst 2, 1) := by decide +kernel
theorem dL_law_1059 : decode cL_law 1059 = .ok (.iadd, 1) := by decide +kernel
theorem dL_law_1060 : decode cL_law 1060 = .ok (.iaload, 1) := by decide +kernel
theorem dL_law_1061 : decode cL_law 1061 = .ok (.invokevirtual 137, 3) := by decide +kernel
theorem dL_law_1064 : decode cL_law 1064 = .ok (.if_icmp .eq 285, 3) := by decide +kernel
theorem dL_law_1067 : decode cL_law 1067 = .ok (.iconst 0, 1) := by decide +kernel
theorem dL_law_1068 : decode cL_law 1068 = .ok (.ireturn, 1) := by decide +kernel
theorem dL_law_1069 : decode cL_law 1069 = .ok (.aload_n 1, 1) := by decide +kernel
theorem dL_law_1070 : decode cL_law 1070 = .ok (.aload_n 0, 1) := by decide +kernel
theorem dL_law_1071 : decode cL_law 1071 = .ok (.iload_n 3, 1) := by decide +kernel
theorem dL_law_1072 : decode cL_law 1072 = .ok (.iconst 1, 1) := by decide +kernel
theorem dL_law_1073 : decode cL_law 1073 = .ok (.iadd, 1) := by decide +kernel
theorem dL_law_1074 : decode cL_law 1074 = .ok (.iaload, 1) := by decide +kernel
theorem dL_law_1075 : decode cL_law 1075 = .ok (.aload_n 0, 1) := by decide +kernel
theorem dL_law_1076 : decode cL_law 1076 = .ok (.iload_n 3, 1) := by decide +kernel
theorem dL_law_1077 : decode cL_law 1077 = .ok (.iconst 2, 1) := by decide +kernel
theorem dL_law_1078 : decode cL_law 1078 = .ok (.iadd, 1) := by decide +kernel
theorem dL_law_1079 : decode cL_law 1079 = .ok (.iaload, 1) := by decide +kernel
theorem dL_law_1080 : decode cL_law 1080 = .ok (.aload_n 0, 1) := by decide +kernel
theorem dL_law_1081 : decode cL_law 1081 = .ok (.iload_n 3, 1) := by decide +kernel
theorem dL_law_1082 : decode cL_law 1082 = .ok (.iconst 3, 1) := by decide +kernel
theorem dL_law_1083 : decode cL_law 1083 = .ok (.iadd, 1) := by decide +kernel
theorem dL_law_1084 : decode cL_law 1084 = .ok (.iaload, 1) := by decide +kernel
theorem dL_law_1085 : decode cL_law 1085 = .ok (.invokevirtual 138, 3) := by decide +kernel
theorem dL_law_1088 : decode cL_law 1088 = .ok (.aload_n 2, 1) := by decide +kernel
theorem dL_law_1089 : decode cL_law 1089 = .ok (.aload_n 0, 1) := by decide +kernel
theorem dL_law_1090 : decode cL_law 1090 = .ok (.iload_n 3, 1) := by decide +kernel
theorem dL_law_1091 : decode cL_law 1091 = .ok (.iconst 1, 1) := by decide +kernel
theorem dL_law_1092 : decode cL_law 1092 = .ok (.iadd, 1) := by decide +kernel
theorem dL_law_1093 : decode cL_law 1093 = .ok (.iaload, 1) := by decide +kernel
theorem dL_law_1094 : decode cL_law 1094 = .ok (.aload_n 0, 1) := by decide +kernel
theorem dL_law_1095 : decode cL_law 1095 = .ok (.iload_n 3, 1) := by decide +kernel
theorem dL_law_1096 : decode cL_law 1096 = .ok (.iconst 2, 1) := by decide +kernel
theorem dL_law_1097 : decode cL_law 1097 = .ok (.iadd, 1) := by decide +kernel
theorem dL_law_1098 : decode cL_law 1098 = .ok (.iaload, 1) := by decide +kernel
theorem dL_law_1099 : decode cL_law 1099 = .ok (.aload_n 0, 1) := by decide +kernel
theorem dL_law_1100 : decode cL_law 1100 = .ok (.iload_n 3, 1) := by decide +kernel
theorem dL_law_1101 : decode cL_law 1101 = .ok (.iconst 3, 1) := by decide +kernel
theorem dL_law_1102 : decode cL_law 1102 = .ok (.iadd, 1) := by decide +kernel
theorem dL_law_1103 : decode cL_law 1103 = .ok (.iaload, 1) := by decide +kernel
theorem dL_law_1104 : decode cL_law 1104 = .ok (.invokevirtual 141, 3) := by decide +kernel
theorem dL_law_1107 : decode cL_law 1107 = .ok (.if_icmp .eq 242, 3) := by decide +kernel
theorem dL_law_1110 : decode cL_law 1110 = .ok (.iconst 0, 1) := by decide +kernel
theorem dL_law_1111 : decode cL_law 1111 = .ok (.ireturn, 1) := by decide +kernel
theorem dL_law_1112 : decode cL_law 1112 = .ok (.aload_n 1, 1) := by decide +kernel
theorem dL_law_1113 : decode cL_law 1113 = .ok (.aload_n 0, 1) := by decide +kernel
theorem dL_law_1114 : decode cL_law 1114 = .ok (.iload_n 3, 1) := by decide +kernel
theorem dL_law_1115 : decode cL_law 1115 = .ok (.iconst 1, 1) := by decide +kernel
theorem dL_law_1116 : decode cL_law 1116 = .ok (.iadd, 1) := by decide +kernel
theorem dL_law_1117 : decode cL_law 1117 = .ok (.iaload, 1) := by decide +kernel
theorem dL_law_1118 : decode cL_law 1118 = .ok (.aload_n 0, 1) := by decide +kernel
theorem dL_law_1119 : decode cL_law 1119 = .ok (.iload_n 3, 1) := by decide +kernel
theorem dL_law_1120 : decode cL_law 1120 = .ok (.iconst 2, 1) := by decide +kernel
theorem dL_law_1121 : decode cL_law 1121 = .ok (.iadd, 1) := by decide +kernel
theorem dL_law_1122 : decode cL_law 1122 = .ok (.iaload, 1) := by decide +kernel
theorem dL_law_1123 : decode cL_law 1123 = .ok (.aload_n 0, 1) := by decide +kernel
theorem dL_law_1124 : decode cL_law 1124 = .ok (.iload_n 3, 1) := by decide +kernel
theorem dL_law_1125 : decode cL_law 1125 = .ok (.iconst 3, 1) := by decide +kernel
theorem dL_law_1126 : decode cL_law 1126 = .ok (.iadd, 1) := by decide +kernel
theorem dL_law_1127 : decode cL_law 1127 = .ok (.iaload, 1) := by decide +kernel
theorem dL_law_1128 : decode cL_law 1128 = .ok (.invokevirtual 142, 3) := by decide +kernel
theorem dL_law_1131 : decode cL_law 1131 = .ok (.aload_n 2, 1) := by decide +kernel
theorem dL_law_1132 : decode cL_law 1132 = .ok (.aload_n 0, 1) := by decide +kernel
theorem dL_law_1133 : decode cL_law 1133 = .ok (.iload_n 3, 1) := by decide +kernel
theorem dL_law_1134 : decode cL_law 1134 = .ok (.iconst 1, 1) := by decide +kernel
theorem dL_law_1135 : decode cL_law 1135 = .ok (.iadd, 1) := by decide +kernel
theorem dL_law_1136 : decode cL_law 1136 = .ok (.iaload, 1) := by decide +kernel
theorem dL_law_1137 : decode cL_law 1137 = .ok (.aload_n 0, 1) := by decide +kernel
theorem dL_law_1138 : decode cL_law 1138 = .ok (.iload_n 3, 1) := by decide +kernel
theorem dL_law_1139 : decode cL_law 1139 = .ok (.iconst 2, 1) := by decide +kernel
theorem dL_law_1140 : decode cL_law 1140 = .ok (.iadd, 1) := by decide +kernel
theorem dL_law_1141 : decode cL_law 1141 = .ok (.iaload, 1) := by decide +kernel
theorem dL_law_1142 : decode cL_law 1142 = .ok (.aload_n 0, 1) := by decide +kernel
theorem dL_law_1143 : decode cL_law 1143 = .ok (.iload_n 3, 1) := by decide +kernel
theorem dL_law_1144 : decode cL_law 1144 = .ok (.iconst 3, 1) := by decide +kernel
theorem dL_law_1145 : decode cL_law 1145 = .ok (.iadd, 1) := by decide +kernel
theorem dL_law_1146 : decode cL_law 1146 = .ok (.iaload, 1) := by decide +kernel
theorem dL_law_1147 : decode cL_law 1147 = .ok (.invokevirtual 145, 3) := by decide +kernel
theorem dL_law_1150 : decode cL_law 1150 = .ok (.if_icmp .eq 199, 3) := by decide +kernel
theorem dL_law_1153 : decode cL_law 1153 = .ok (.iconst 0, 1) := by decide +kernel
theorem dL_law_1154 : decode cL_law 1154 = .ok (.ireturn, 1) := by decide +kernel
theorem dL_law_1155 : decode cL_law 1155 = .ok (.aload_n 1, 1) := by decide +kernel
theorem dL_law_1156 : decode cL_law 1156 = .ok (.aload_n 0, 1) := by decide +kernel
theorem dL_law_1157 : decode cL_law 1157 = .ok (.iload_n 3, 1) := by decide +kernel
theorem dL_law_1158 : decode cL_law 1158 = .ok (.iconst 1, 1) := by decide +kernel
theorem dL_law_1159 : decode cL_law 1159 = .ok (.iadd, 1) := by decide +kernel
theorem dL_law_1160 : decode cL_law 1160 = .ok (.iaload, 1) := by decide +kernel
theorem dL_law_1161 : decode cL_law 1161 = .ok (.aload_n 0, 1) := by decide +kernel
theorem dL_law_1162 : decode cL_law 1162 = .ok (.iload_n 3, 1) := by decide +kernel
theorem dL_law_1163 : decode cL_law 1163 = .ok (.iconst 2, 1) := by decide +kernel
theorem dL_law_1164 : decode cL_law 1164 = .ok (.iadd, 1) := by decide +kernel
theorem dL_law_1165 : decode cL_law 1165 = .ok (.iaload, 1) := by decide +kernel
theorem dL_law_1166 : decode cL_law 1166 = .ok (.aload_n 0, 1) := by decide +kernel
theorem dL_law_1167 : decode cL_law 1167 = .ok (.iload_n 3, 1) := by decide +kernel
theorem dL_law_1168 : decode cL_law 1168 = .ok (.iconst 3, 1) := by decide +kernel
theorem dL_law_1169 : decode cL_law 1169 = .ok (.iadd, 1) := by decide +kernel
theorem dL_law_1170 : decode cL_law 1170 = .ok (.iaload, 1) := by decide +kernel
theorem dL_law_1171 : decode cL_law 1171 = .ok (.aload_n 0, 1) := by decide +kernel
theorem dL_law_1172 : decode cL_law 1172 = .ok (.iload_n 3, 1) := by decide +kernel
theorem dL_law_1173 : decode cL_law 1173 = .ok (.iconst 4, 1) := by decide +kernel
theorem dL_law_1174 : decode cL_law 1174 = .ok (.iadd, 1) := by decide +kernel
theorem dL_law_1175 : decode cL_law 1175 = .ok (.iaload, 1) := by decide +kernel
theorem dL_law_1176 : decode cL_law 1176 = .ok (.aload_n 0, 1) := by decide +kernel
theorem dL_law_1177 : decode cL_law 1177 = .ok (.iload_n 3, 1) := by decide +kernel
theorem dL_law_1178 : decode cL_law 1178 = .ok (.iconst 5, 1) := by decide +kernel
theorem dL_law_1179 : decode cL_law 1179 = .ok (.iadd, 1) := by decide +kernel
theorem dL_law_1180 : decode cL_law 1180 = .ok (.iaload, 1) := by decide +kernel
theorem dL_law_1181 : decode cL_law 1181 = .ok (.invokevirtual 146, 3) := by decide +kernel
theorem dL_law_1184 : decode cL_law 1184 = .ok (.aload_n 2, 1) := by decide +kernel
theorem dL_law_1185 : decode cL_law 1185 = .ok (.aload_n 0, 1) := by decide +kernel
theorem dL_law_1186 : decode cL_law 1186 = .ok (.iload_n 3, 1) := by decide +kernel
theorem dL_law_1187 : decode cL_law 1187 = .ok (.iconst 1, 1) := by decide +kernel
theorem dL_law_1188 : decode cL_law 1188 = .ok (.iadd, 1) := by decide +kernel
theorem dL_law_1189 : decode cL_law 1189 = .ok (.iaload, 1) := by decide +kernel
theorem dL_law_1190 : decode cL_law 1190 = .ok (.aload_n 0, 1) := by decide +kernel
theorem dL_law_1191 : decode cL_law 1191 = .ok (.iload_n 3, 1) := by decide +kernel
theorem dL_law_1192 : decode cL_law 1192 = .ok (.iconst 2, 1) := by decide +kernel
theorem dL_law_1193 : decode cL_law 1193 = .ok (.iadd, 1) := by decide +kernel
theorem dL_law_1194 : decode cL_law 1194 = .ok (.iaload, 1) := by decide +kernel
theorem dL_law_1195 : decode cL_law 1195 = .ok (.aload_n 0, 1) := by decide +kernel
theorem dL_law_1196 : decode cL_law 1196 = .ok (.iload_n 3, 1) := by decide +kernel
theorem dL_law_1197 : decode cL_law 1197 = .ok (.iconst 3, 1) := by decide +kernel
theorem dL_law_1198 : decode cL_law 1198 = .ok (.iadd, 1) := by decide +kernel
theorem dL_law_1199 : decode cL_law 1199 = .ok (.iaload, 1) := by decide +kernel
theorem dL_law_1200 : decode cL_law 1200 = .ok (.aload_n 0, 1) := by decide +kernel
theorem dL_law_1201 : decode cL_law 1201 = .ok (.iload_n 3, 1) := by decide +kernel
theorem dL_law_1202 : decode cL_law 1202 = .ok (.iconst 4, 1) := by decide +kernel
theorem dL_law_1203 : decode cL_law 1203 = .ok (.iadd, 1) := by decide +kernel
theorem dL_law_1204 : decode cL_law 1204 = .ok (.iaload, 1) := by decide +kernel
theorem dL_law_1205 : decode cL_law 1205 = .ok (.aload_n 0, 1) := by decide +kernel
theorem dL_law_1206 : decode cL_law 1206 = .ok (.iload_n 3, 1) := by decide +kernel
theorem dL_law_1207 : decode cL_law 1207 = .ok (.iconst 5, 1) := by decide +kernel
theorem dL_law_1208 : decode cL_law 1208 = .ok (.iadd, 1) := by decide +kernel
theorem dL_law_1209 : decode cL_law 1209 = .ok (.iaload, 1) := by decide +kernel
theorem dL_law_1210 : decode cL_law 1210 = .ok (.invokevirtual 150, 3) := by decide +kernel
theorem dL_law_1213 : decode cL_law 1213 = .ok (.if_icmp .eq 136, 3) := by decide +kernel
theorem dL_law_1216 : decode cL_law 1216 = .ok (.iconst 0, 1) := by decide +kernel
theorem dL_law_1217 : decode cL_law 1217 = .ok (.ireturn, 1) := by decide +kernel
theorem dL_law_1218 : decode cL_law 1218 = .ok (.aload_n 1, 1) := by decide +kernel
theorem dL_law_1219 : decode cL_law 1219 = .ok (.aload_n 0, 1) := by decide +kernel
theorem dL_law_1220 : decode cL_law 1220 = .ok (.iload_n 3, 1) := by decide +kernel
theorem dL_law_1221 : decode cL_law 1221 = .ok (.iconst 1, 1) := by decide +kernel
theorem dL_law_1222 : decode cL_law 1222 = .ok (.iadd, 1) := by decide +kernel
theorem dL_law_1223 : decode cL_law 1223 = .ok (.iaload, 1) := by decide +kernel
theorem dL_law_1224 : decode cL_law 1224 = .ok (.invokevirtual 151, 3) := by decide +kernel
theorem dL_law_1227 : decode cL_law 1227 = .ok (.aload_n 2, 1) := by decide +kernel
theorem dL_law_1228 : decode cL_law 1228 = .ok (.aload_n 0, 1) := by decide +kernel
theorem dL_law_1229 : decode cL_law 1229 = .ok (.iload_n 3, 1) := by decide +kernel
theorem dL_law_1230 : decode cL_law 1230 = .ok (.iconst 1, 1) := by decide +kernel
theorem dL_law_1231 : decode cL_law 1231 = .ok (.iadd, 1) := by decide +kernel
theorem dL_law_1232 : decode cL_law 1232 = .ok (.iaload, 1) := by decide +kernel
theorem dL_law_1233 : decode cL_law 1233 = .ok (.invokevirtual 154, 3) := by decide +kernel
theorem dL_law_1236 : decode cL_law 1236 = .ok (.if_icmp .eq 113, 3) := by decide +kernel
theorem dL_law_1239 : decode cL_law 1239 = .ok (.iconst 0, 1) := by decide +kernel
theorem dL_law_1240 : decode cL_law 1240 = .ok (.ireturn, 1) := by decide +kernel
theorem dL_law_1241 : decode cL_law 1241 = .ok (.aload_n 1, 1) := by decide +kernel
theorem dL_law_1242 : decode cL_law 1242 = .ok (.aload_n 0, 1) := by decide +kernel
theorem dL_law_1243 : decode cL_law 1243 = .ok (.iload_n 3, 1) := by decide +kernel
theorem dL_law_1244 : decode cL_law 1244 = .ok (.iconst 1, 1) := by decide +kernel
theorem dL_law_1245 : decode cL_law 1245 = .ok (.iadd, 1) := by decide +kernel
theorem dL_law_1246 : decode cL_law 1246 = .ok (.iaload, 1) := by decide +kernel
theorem dL_law_1247 : decode cL_law 1247 = .ok (.invokevirtual 155, 3) := by decide +kernel
theorem dL_law_1250 : decode cL_law 1250 = .ok (.aload_n 2, 1) := by decide +kernel
theorem dL_law_1251 : decode cL_law 1251 = .ok (.aload_n 0, 1) := by decide +kernel
theorem dL_law_1252 : decode cL_law 1252 = .ok (.iload_n 3, 1) := by decide +kernel
theorem dL_law_1253 : decode cL_law 1253 = .ok (.iconst 1, 1) := by decide +kernel
theorem dL_law_1254 : decode cL_law 1254 = .ok (.iadd, 1) := by decide +kernel
theorem dL_law_1255 : decode cL_law 1255 = .ok (.iaload, 1) := by decide +kernel
theorem dL_law_1256 : decode cL_law 1256 = .ok (.invokevirtual 158, 3) := by decide +kernel
theorem dL_law_1259 : decode cL_law 1259 = .ok (.if_icmp .eq 90, 3) := by decide +kernel
theorem dL_law_1262 : decode cL_law 1262 = .ok (.iconst 0, 1) := by decide +kernel
theorem dL_law_1263 : decode cL_law 1263 = .ok (.ireturn, 1) := by decide +kernel
theorem dL_law_1264 : decode cL_law 1264 = .ok (.aload_n 1, 1) := by decide +kernel
theorem dL_law_1265 : decode cL_law 1265 = .ok (.invokevirtual 159, 3) := by decide +kernel
theorem dL_law_1268 : decode cL_law 1268 = .ok (.aload_n 2, 1) := by decide +kernel
theorem dL_law_1269 : decode cL_law 1269 = .ok (.invokevirtual 162, 3) := by decide +kernel
theorem dL_law_1272 : decode cL_law 1272 = .ok (.if_icmp .eq 77, 3) := by decide +kernel
theorem dL_law_1275 : decode cL_law 1275 = .ok (.iconst 0, 1) := by decide +kernel
theorem dL_law_1276 : decode cL_law 1276 = .ok (.ireturn, 1) := by decide +kernel
theorem dL_law_1277 : decode cL_law 1277 = .ok (.aload_n 1, 1) := by decide +kernel
theorem dL_law_1278 : decode cL_law 1278 = .ok (.invokevirtual 163, 3) := by decide +kernel
theorem dL_law_1281 : decode cL_law 1281 = .ok (.aload_n 2, 1) := by decide +kernel
theorem dL_law_1282 : decode cL_law 1282 = .ok (.invokevirtual 166, 3) := by decide +kernel
theorem dL_law_1285 : decode cL_law 1285 = .ok (.if_icmp .eq 64, 3) := by decide +kernel
theorem dL_law_1288 : decode cL_law 1288 = .ok (.iconst 0, 1) := by decide +kernel
theorem dL_law_1289 : decode cL_law 1289 = .ok (.ireturn, 1) := by decide +kernel
theorem dL_law_1290 : decode cL_law 1290 = .ok (.aload_n 1, 1) := by decide +kernel
theorem dL_law_1291 : decode cL_law 1291 = .ok (.invokevirtual 167, 3) := by decide +kernel
theorem dL_law_1294 : decode cL_law 1294 = .ok (.aload_n 2, 1) := by decide +kernel
theorem dL_law_1295 : decode cL_law 1295 = .ok (.invokevirtual 170, 3) := by decide +kernel
theorem dL_law_1298 : decode cL_law 1298 = .ok (.if_icmp .eq 51, 3) := by decide +kernel
theorem dL_law_1301 : decode cL_law 1301 = .ok (.iconst 0, 1) := by decide +kernel
theorem dL_law_1302 : decode cL_law 1302 = .ok (.ireturn, 1) := by decide +kernel
theorem dL_law_1303 : decode cL_law 1303 = .ok (.aload_n 1, 1) := by decide +kernel
theorem dL_law_1304 : decode cL_law 1304 = .ok (.aload_n 0, 1) := by decide +kernel
theorem dL_law_1305 : decode cL_law 1305 = .ok (.iload_n 3, 1) := by decide +kernel
theorem dL_law_1306 : decode cL_law 1306 = .ok (.iconst 1, 1) := by decide +kernel
theorem dL_law_1307 : decode cL_law 1307 = .ok (.iadd, 1) := by decide +kernel
theorem dL_law_1308 : decode cL_law 1308 = .ok (.iaload, 1) := by decide +kernel
theorem dL_law_1309 : decode cL_law 1309 = .ok (.invokevirtual 171, 3) := by decide +kernel
theorem dL_law_1312 : decode cL_law 1312 = .ok (.aload_n 2, 1) := by decide +kernel
theorem dL_law_1313 : decode cL_law 1313 = .ok (.aload_n 0, 1) := by decide +kernel
theorem dL_law_1314 : decode cL_law 1314 = .ok (.iload_n 3, 1) := by decide +kernel
theorem dL_law_1315 : decode cL_law 1315 = .ok (.iconst 1, 1) := by decide +kernel
theorem dL_law_1316 : decode cL_law 1316 = .ok (.iadd, 1) := by decide +kernel
theorem dL_law_1317 : decode cL_law 1317 = .ok (.iaload, 1) := by decide +kernel
theorem dL_law_1318 : decode cL_law 1318 = .ok (.invokevirtual 174, 3) := by decide +kernel
theorem dL_law_1321 : decode cL_law 1321 = .ok (.if_icmp .eq 28, 3) := by decide +kernel
theorem dL_law_1324 : decode cL_law 1324 = .ok (.iconst 0, 1) := by decide +kernel
theorem dL_law_1325 : decode cL_law 1325 = .ok (.ireturn, 1) := by decide +kernel
theorem dL_law_1326 : decode cL_law 1326 = .ok (.aload_n 1, 1) := by decide +kernel
theorem dL_law_1327 : decode cL_law 1327 = .ok (.aload_n 0, 1) := by decide +kernel
theorem dL_law_1328 : decode cL_law 1328 = .ok (.iload_n 3, 1) := by decide +kernel
theorem dL_law_1329 : decode cL_law 1329 = .ok (.iconst 1, 1) := by decide +kernel
theorem dL_law_1330 : decode cL_law 1330 = .ok (.iadd, 1) := by decide +kernel
theorem dL_law_1331 : decode cL_law 1331 = .ok (.iaload, 1) := by decide +kernel
theorem dL_law_1332 : decode cL_law 1332 = .ok (.invokevirtual 175, 3) := by decide +kernel
theorem dL_law_1335 : decode cL_law 1335 = .ok (.aload_n 2, 1) := by decide +kernel
theorem dL_law_1336 : decode cL_law 1336 = .ok (.aload_n 0, 1) := by decide +kernel
theorem dL_law_1337 : decode cL_law 1337 = .ok (.iload_n 3, 1) := by decide +kernel
theorem dL_law_1338 : decode cL_law 1338 = .ok (.iconst 1, 1) := by decide +kernel
theorem dL_law_1339 : decode cL_law 1339 = .ok (.iadd, 1) := by decide +kernel
theorem dL_law_1340 : decode cL_law 1340 = .ok (.iaload, 1) := by decide +kernel
theorem dL_law_1341 : decode cL_law 1341 = .ok (.invokevirtual 178, 3) := by decide +kernel
theorem dL_law_1344 : decode cL_law 1344 = .ok (.if_icmp .eq 5, 3) := by decide +kernel
theorem dL_law_1347 : decode cL_law 1347 = .ok (.iconst 0, 1) := by decide +kernel
theorem dL_law_1348 : decode cL_law 1348 = .ok (.ireturn, 1) := by decide +kernel
theorem dL_law_1349 : decode cL_law 1349 = .ok (.iinc 3 6, 3) := by decide +kernel
theorem dL_law_1352 : decode cL_law 1352 = .ok (.goto (-1334), 3) := by decide +kernel
theorem dL_law_1355 : decode cL_law 1355 = .ok (.iconst 1, 1) := by decide +kernel
theorem dL_law_1356 : decode cL_law 1356 = .ok (.ireturn, 1) := by decide +kernel
end
section
/-! THE SMALL MACHINE: shapes (which cell is what), data (what the whole-number fields and elements hold), and a judgement over them -/
def qs_isN : Cond → Bool
  | .fieldLinkNest .. => true
  | .methodLinkNest .. => true
  | _ => false
def qs_gT : List Cond := lw_tbl.filter goodWord
def qs_nT : List Cond := lw_tbl.filter qs_isN
theorem qs_gm {w : Cond} (i : Nat) (h : lw_tbl[i]? = some w) (g : goodWord w = true) : w ∈ qs_gT := List.mem_filter.mpr ⟨List.mem_of_getElem? h, g⟩
theorem qs_nm {w : Cond} (i : Nat) (h : lw_tbl[i]? = some w) (g : qs_isN w = true) : w ∈ qs_nT := List.mem_filter.mpr ⟨List.mem_of_getElem? h, g⟩
theorem qs_gW {w : Cond} (h : w ∈ qs_gT) : goodWord w = true := (List.mem_filter.mp h).2
abbrev qs_M : Type := String × ByteArray × Nat × Option FieldType
abbrev qs_D : Type := Nat → Nat → Int32
abbrev qs_Sh : Type := (Nat × List (Option (Option Nat))) ⊕ (Nat × Nat × (Nat → Option Nat))
abbrev qs_E : Type := va_G × (Nat → ClassId) × (Nat → Nat) × (Nat → Nat)
def qs_u (D : qs_D) (i k : Nat) (v : Int32) : qs_D := fun j => if j = i then upd (D i) k v else D j
def qs_tr (E : qs_E) : Value → Value
  | .ref i => .ref (E.2.2.1 i)
  | v => v
def qs_fld (E : qs_E) (d : Nat → Int32) (k : Nat) (t : Option (Option Nat)) : Value := match t with
  | none => .int (d k)
  | some r => va_rf (r.map E.2.2.1)
def qs_cell (E : qs_E) (sh : qs_Sh) (d : Nat → Int32) : va_E := match sh with
  | .inl o => .inr (o.1, o.2.mapIdx (qs_fld E d))
  | .inr a => .inl (E.2.1 a.1, a.2.1, if a.1 ≤ 1 then .inl d else .inr (.inr (.inr (.inr (fun j => (a.2.2 j).map E.2.2.1)))))
def qs_ren (E : qs_E) (Sh : List qs_Sh) (D : qs_D) : va_W := Sh.mapIdx (fun i sh => (E.2.2.1 i, qs_cell E sh (D i)))
def qs_tys (E : qs_E) : List (ClassId × FieldType) := [(E.2.1 0, .int), (E.2.1 1, .byte), (E.2.1 2, .object RX0), (E.2.1 3, .object RX2)]
theorem qs_cat (E : qs_E) (v : Value) : (qs_tr E v).category = v.category := by cases v <;> rfl
theorem qs_ren_at {E : qs_E} {Sh : List qs_Sh} {D : qs_D} {i : Nat} {sh : qs_Sh} (h : Sh[i]? = some sh) : (qs_ren E Sh D)[i]? = some (E.2.2.1 i, qs_cell E sh (D i)) := by
  simp [qs_ren, List.getElem?_mapIdx, h]
theorem qs_u_self (D : qs_D) (i k : Nat) (v : Int32) : qs_u D i k v i = upd (D i) k v := by simp [qs_u]
theorem qs_u_ne (D : qs_D) {i j : Nat} (k : Nat) (v : Int32) (h : j ≠ i) : qs_u D i k v j = D j := by simp [qs_u, h]
def qs_w (D : qs_D) (i : Nat) (f : Nat → Int32) : qs_D := fun j => if j = i then f else D j
theorem qs_ren_w {E : qs_E} {Sh : List qs_Sh} {D : qs_D} {i : Nat} {f : Nat → Int32} {sh : qs_Sh} (h : Sh[i]? = some sh) : qs_ren E Sh (qs_w D i f) = (qs_ren E Sh D).set i (E.2.2.1 i, qs_cell E sh f) := by
  apply List.ext_getElem?
  intro j
  by_cases hj : j = i
  · subst hj
    have hl : j < Sh.length := (List.getElem?_eq_some_iff.mp h).1
    rw [qs_ren_at h, List.getElem?_set_self (by simp [qs_ren, hl])]
    simp [qs_w]
  · rw [List.getElem?_set_ne (fun e => hj e.symm)]
    cases hs : Sh[j]? with
    | none => simp [qs_ren, List.getElem?_mapIdx, hs]
    | some x => rw [qs_ren_at hs, qs_ren_at hs]; simp [qs_w, hj]
theorem qs_u_w (D : qs_D) (i k : Nat) (v : Int32) : qs_u D i k v = qs_w D i (upd (D i) k v) := rfl
theorem qs_fld_set {E : qs_E} {d : Nat → Int32} {tm : List (Option (Option Nat))} {k : Nat} {v : Int32} (h : tm[k]? = some none) : tm.mapIdx (qs_fld E (upd d k v)) = (tm.mapIdx (qs_fld E d)).set k (.int v) := by
  apply List.ext_getElem?
  intro j
  by_cases hj : j = k
  · subst hj
    have hl : j < tm.length := (List.getElem?_eq_some_iff.mp h).1
    rw [List.getElem?_set_self (by simp [hl]), List.getElem?_mapIdx, h]
    simp [qs_fld, upd]
  · rw [List.getElem?_set_ne (fun e => hj e.symm), List.getElem?_mapIdx, List.getElem?_mapIdx]
    cases hs : tm[j]? with
    | none => rfl
    | some x => cases x <;> simp [qs_fld, upd, hj]
/-- tables that nobody writes, and texts -/
def qs_tabs : List (String × String × List Int32) := [("QuarrelSauce", "DEED_CHANGES", [0, 8, 5, 3, -20, 12, 15, -4, 2, -9, 6, 1]), ("QuarrelSauce", "ABOVE", [-1, 0, 0, 2, 3, 0, 1]), ("QuarrelSauceModel", "CHANGES", [0, 8, 5, 3, -20, 12, 15, -4, 2, -9, 6, 1]), ("QuarrelSauceModel", "NAMES", [115, 97, 117, 99, 101, 0, 0, 99, 114, 101, 97, 109, 0, 0, 115, 116, 111, 99, 107, 0, 0, 103, 108, 97, 122, 101, 0, 0, 100, 97, 114, 107, 0, 0, 0, 115, 97, 108, 97, 100, 0, 0, 99, 117, 115, 116, 97, 114, 100, 116, 104, 105, 99, 107, 0, 0, 115, 97, 108, 116, 0, 0, 0, 111, 102, 102, 0, 0, 0, 0, 115, 112, 108, 105, 116, 0, 0, 100, 101, 101, 100, 0, 0, 0, 103, 114, 117, 100, 103, 101, 0, 104, 101, 97, 116, 0, 0, 0])]
def qs_strs : List (Nat × String × List Int32) := [(101, "sauce", [115, 97, 117, 99, 101]), (103, "cream", [99, 114, 101, 97, 109]), (105, "stock", [115, 116, 111, 99, 107]), (107, "glaze", [103, 108, 97, 122, 101]), (109, "dark", [100, 97, 114, 107]), (111, "salad", [115, 97, 108, 97, 100]), (113, "custard", [99, 117, 115, 116, 97, 114, 100]), (73, "thick", [116, 104, 105, 99, 107]), (79, "salt", [115, 97, 108, 116]), (83, "off", [111, 102, 102]), (87, "split", [115, 112, 108, 105, 116]), (52, "deed", [100, 101, 101, 100]), (61, "grudge", [103, 114, 117, 100, 103, 101]), (69, "heat", [104, 101, 97, 116])]
def qs_slen : List Nat := qs_strs.map (fun q => q.2.2.length)
def qs_sbyt : List (List Int32) := qs_strs.map (fun q => q.2.2)
def qs_Bg (E : qs_E) (A : Nat → Prop) (U : State) : Prop :=
  va_K E.1 vwCl (qs_tys E) U ∧ (∀ w ∈ qs_nT, va_Nw w U) ∧
  (∀ (t : Nat) (x : String × String × List Int32), qs_tabs[t]? = some x → va_Z x.1 x.2.1 "[I" (.ref (E.2.2.1 (2000 + t))) A U U.heap ∧ va_T .int (E.2.2.1 (2000 + t)) x.2.2.length (fun j => .int (x.2.2.getD j 0)) A U U.heap) ∧
  (∀ (k : Nat) (x : Nat × String × List Int32), qs_strs[k]? = some x → vk_R RX3 x.1 x.2.1 (E.2.2.1 (1000 + k)) U) ∧
  vk_S 14 qs_slen qs_sbyt (fun k => E.2.2.1 (1000 + k)) E.2.2.2 A U U.heap ∧
  va_Z "java/lang/String" "COMPACT_STRINGS" "Z" (.int 1) A U U.heap ∧
  va_Zq "jdk/internal/util/Preconditions" "SIOOBE_FORMATTER" "Ljava/util/function/BiFunction;" A U U.heap
theorem qs_nW {w : Cond} (hw : w ∈ qs_nT) {s U : State} (hW : s.WarmedH U.vm) (h : va_Nw w s) : va_Nw w U := by
  have h1 := (List.mem_filter.mp hw).2
  cases w <;> first | exact va_Nw.warmF hW h | exact va_Nw.warmM hW h | (simp [qs_isN] at h1; done)
theorem qs_Bg.go {E : qs_E} {A : Nat → Prop} {s U : State} {H : Heap} {locs : List Loc} (h : qs_Bg E A s) (hS : va_S A s.heap H locs) (hU : U.heap = H) (hW : s.WarmedH U.vm) : qs_Bg E A U := by
  subst hU
  obtain ⟨h1, h2, h3, h4, h5, h6, h7⟩ := h
  exact ⟨va_K.moved hW.alike h1, fun w hw => qs_nW hw hW (h2 w hw), fun t x hx => ⟨(va_Z.moved hW.alike (h3 t x hx).1).kept hS.2.1, (va_T.moved hW.alike (h3 t x hx).2).kept hS.2.1⟩, fun k x hx => (h4 k x hx).warm hW, (vk_S.moved hW.alike h5).kept hS.2.1, (va_Z.moved hW.alike h6).kept hS.2.1, (va_Zq.moved hW.alike h7).kept hS.2.1⟩
theorem qs_nS {w : Cond} (hw : w ∈ qs_nT) {s U : State} (hW : s.vm = U.vm) (h : va_Nw w s) : va_Nw w U := by
  have h1 := (List.mem_filter.mp hw).2
  cases w <;> first | (simp [qs_isN] at h1; done) | exact va_Nw.same rfl hW h
theorem qs_Bg.blind {E : qs_E} {A : Nat → Prop} {U : State} {g : JFrame} {mk : MethodId} {a : Array Value} (h : qs_Bg E A U) : qs_Bg E A (U.calling g mk a) := by
  obtain ⟨h1, h2, h3, h4, h5, h6, h7⟩ := h
  exact ⟨va_K.moved (u := U) (Vm.Alike.refl U.vm) h1, fun w hw => qs_nS (s := U) hw rfl (h2 w hw), fun t x hx => ⟨va_Z.moved (u := U) (Vm.Alike.refl U.vm) (h3 t x hx).1, va_T.moved (u := U) (Vm.Alike.refl U.vm) (h3 t x hx).2⟩, fun k x hx => vk_R.same (u := U) rfl (h4 k x hx), vk_S.moved (u := U) (Vm.Alike.refl U.vm) h5, va_Z.moved (u := U) (Vm.Alike.refl U.vm) h6, va_Zq.moved (u := U) (Vm.Alike.refl U.vm) h7⟩
theorem qs_Bg.narrow {E : qs_E} {A B : Nat → Prop} {U : State} (h : qs_Bg E A U) (hAB : ∀ q, B q → A q) : qs_Bg E B U := by
  obtain ⟨h1, h2, h3, h4, h5, h6, h7⟩ := h
  exact ⟨h1, h2, fun t x hx => ⟨(h3 t x hx).1.narrow hAB, (h3 t x hx).2.narrow hAB⟩, h4, h5.narrow hAB, h6.narrow hAB, h7.narrow hAB⟩
def qs_rm (dp : Nat) : Room := { frames := dp, cells := 0, slots := 0, locals := 39 * dp }
def qs_ws (y : MethodName) (mm : qs_M) : List Cond := Cond.code y mm.2.1 mm.2.2.1 mm.2.2.2 :: qs_gT
def qs_Q {ρ : Type} (E : qs_E) (A : Nat → Prop) (Sh : List qs_Sh) (rv : ρ → Option Value) (X : ρ × qs_D) : Array Value → State → Outcome → State → Prop := fun _ st oc t =>
  (oc = .returned ((rv X.1).map (qs_tr E)) ∧ va_P E.1 vwCl (qs_ren E Sh X.2) t.heap ∧ va_D A (qs_ren E Sh X.2)) ∧ va_F A st t
def qs_W (E : qs_E) (A : Nat → Prop) (Sh : List qs_Sh) (D : qs_D) (U : State) : Prop := qs_Bg E A U ∧ va_P E.1 vwCl (qs_ren E Sh D) U.heap ∧ va_D A (qs_ren E Sh D)
def qs_Ctr {ρ : Type} (l : Launch) (E : qs_E) (A : Nat → Prop) (Sh : List qs_Sh) (y : MethodName) (mm : qs_M) (dp : Nat) (rv : ρ → Option Value) (av : List Value) (D : qs_D) (X : ρ × qs_D) : Prop :=
  Met l y (qs_ws y mm) (qs_rm dp) (va_Pc (av.map (qs_tr E)) (qs_W E A Sh D)) (qs_Q E A Sh rv X) 0 0 A
def qs_Cx (E : qs_E) (A : Nat → Prop) (mm : qs_M) (p : Program) (s : State) (m : MethodId) (args : Array Value) (meth : Method) (c : Code) : Prop :=
  p.tables.exec = Jvm.exec ∧ c.code = mm.2.1 ∧ meth.sig.returnType = mm.2.2.2 ∧ c.maxLocals = mm.2.2.1 ∧ s.vm.findClass mm.1 = some m.cls ∧ (∀ w ∈ qs_gT, w.before args s = true) ∧ meth.locks = false ∧ qs_Bg E A s
def qs_lv (E : qs_E) (lv : List (Nat × Value)) : List (Nat × Value) := lv.map (fun q => (q.1, qs_tr E q.2))
def qs_V {ρ : Type} (l : Launch) (E : qs_E) (A : Nat → Prop) (Sh : List qs_Sh) (mm : qs_M) (dp : Nat) (rv : ρ → Option Value) (pc : Nat) (lv : List (Nat × Value)) (st : List Value) (D : qs_D) (X : ρ × qs_D) : Prop :=
  ∀ (p : Program) (e : Env) (s : State) (m : MethodId) (args : Array Value) (below : List Frame) (meth : Method) (c : Code) (H : Heap) (locs : List Loc) (ls : Array Slot), qs_Cx E A mm p s m args meth c → va_S A s.heap H locs → va_P E.1 vwCl (qs_ren E Sh D) H → va_D A (qs_ren E Sh D) → lv_has ls mm.2.2.1 (qs_lv E lv) →
    W p l e (qs_rm dp) s m args below meth c H locs 0 0 (MQ below (qs_Q E A Sh rv X) args s 0 0 A) (F0 m pc ls (st.map (qs_tr E)))
def qs_VO {ρ : Type} (l : Launch) (E : qs_E) (A : Nat → Prop) (Sh : List qs_Sh) (mm : qs_M) (dp : Nat) (rv : ρ → Option Value) (pc : Nat) (lv : List (Nat × Value)) (st : List Value) (D : qs_D) (T : Option (ρ × qs_D)) : Prop :=
  ∀ X : ρ × qs_D, T = some X → qs_V l E A Sh mm dp rv pc lv st D X
def qs_ri : Int32 → Option Value := fun x => some (.int x)
def qs_rl : Int64 → Option Value := fun x => some (.long x)
def qs_rr : Nat → Option Value := fun x => some (.ref x)
def qs_rv : Unit → Option Value := fun _ => none
/-- the words of the decompiled functions -/
def qs_let {α β : Type} (a : α) (f : α → β) : β := f a
def qs_bind {ρ σ : Type} (o : Option (ρ × qs_D)) (f : ρ → qs_D → Option (σ × qs_D)) : Option (σ × qs_D) := match o with
  | none => none
  | some x => f x.1 x.2
def qs_g {σ : Type} (j : Int32) (n : Nat) (T : Option σ) : Option σ := if 0 ≤ j ∧ j < Int32.ofNat n then T else none
def qs_gb {σ : Type} (x : Int32) (T : Option σ) : Option σ := if x = 0 ∨ x = 1 then T else none
def qs_gz {σ : Type} (x : Int32) (T : Option σ) : Option σ := if x = 0 then none else T
def qs_lk : List (Nat × Value) → Nat → Option Value
  | [], _ => none
  | q :: r, i => cond (Nat.beq q.1 i) (some q.2) (qs_lk r i)
def qs_st (lv : List (Nat × Value)) (i : Nat) (v : Value) : List (Nat × Value) := (i, v) :: lv.filter (fun q => !(q.1 == i) && !(q.1 + 1 == i && q.2.category == 2))
def qs_st2 (lv : List (Nat × Value)) (i : Nat) (v : Value) : List (Nat × Value) := (i, v) :: lv.filter (fun q => !(q.1 == i) && (!(q.1 == i + 1) && !(q.1 + 1 == i && q.2.category == 2)))
theorem qs_in {j : Int32} {n : Nat} (hn : n < 2 ^ 31) (h : 0 ≤ j ∧ j < Int32.ofNat n) : vp_in j n := by
  rw [vp_in_iff]
  have h1 := Int32.le_iff_toInt_le.mp h.1
  have h2 := Int32.lt_iff_toInt_lt.mp h.2
  have e : (Int32.ofNat n).toInt = (n : Int) := nI_toInt hn
  rw [e] at h2
  exact ⟨by simpa using h1, h2⟩
theorem qs_in_lt {j : Int32} {n : Nat} (hn : n < 2 ^ 31) (h : 0 ≤ j ∧ j < Int32.ofNat n) : j.toNatClampNeg < n := Nat.not_le.mp fun q => qs_in hn h (Or.inr q)
theorem qs_lk_mem : ∀ {lv : List (Nat × Value)} {i : Nat} {v : Value}, qs_lk lv i = some v → (i, v) ∈ lv := by
  intro lv
  induction lv with
  | nil => intro i v h; cases h
  | cons q r ih =>
    intro i v h
    unfold qs_lk at h
    cases hb : Nat.beq q.1 i with
    | true =>
      rw [hb] at h
      have e : q.1 = i := Nat.eq_of_beq_eq_true hb
      have e2 : q.2 = v := Option.some.inj h
      rw [← e, ← e2]
      exact List.mem_cons_self
    | false =>
      rw [hb] at h
      exact List.mem_cons_of_mem _ (ih h)
theorem qs_get {E : qs_E} {ls : Array Slot} {n : Nat} {lv : List (Nat × Value)} {i : Nat} {v : Value} (hl : lv_has ls n (qs_lv E lv)) (h : qs_lk lv i = some v) : ls[i]? = some (.val (qs_tr E v)) :=
  hl.2.2 (i, qs_tr E v) (List.mem_map.mpr ⟨(i, v), qs_lk_mem h, rfl⟩)
theorem qs_st_lv (E : qs_E) (lv : List (Nat × Value)) (i : Nat) (v : Value) : (i, qs_tr E v) :: (qs_lv E lv).filter (fun q => !(q.1 == i) && !(q.1 + 1 == i && q.2.category == 2)) = qs_lv E (qs_st lv i v) := by
  simp only [qs_lv, qs_st, List.map_cons, List.filter_map]
  congr 2
  congr 1
  funext q
  simp [qs_cat]
theorem qs_st2_lv (E : qs_E) (lv : List (Nat × Value)) (i : Nat) (v : Value) : (i, qs_tr E v) :: (qs_lv E lv).filter (fun q => !(q.1 == i) && (!(q.1 == i + 1) && !(q.1 + 1 == i && q.2.category == 2))) = qs_lv E (qs_st2 lv i v) := by
  simp only [qs_lv, qs_st2, List.map_cons, List.filter_map]
  congr 2
  congr 1
  funext q
  simp [qs_cat]
theorem qs_sum (E : qs_E) (st : List Value) : ((st.map (qs_tr E)).map fun v => v.category).sum = (st.map fun v => v.category).sum := by
  rw [List.map_map]
  congr 2
  funext v
  exact qs_cat E v
theorem qs_args (E : qs_E) : ∀ (vs : List Value) (i : Nat), lv_args i (vs.map (qs_tr E)) = qs_lv E (lv_args i vs) := by
  intro vs
  induction vs with
  | nil => intro i; rfl
  | cons v vs ih =>
    intro i
    show (i, qs_tr E v) :: lv_args (if (qs_tr E v).category = 2 then i + 2 else i + 1) (vs.map (qs_tr E)) = _
    rw [qs_cat, ih]
    rfl

def qs_cl (ci : Nat) (C : String) (T : u_T) (N : Nat) (ty : Nat → FieldType) : Prop := vwCl[ci]? = some (C, T, N) ∧ (∀ w ∈ u_ws C T N, w ∈ qs_gT) ∧ (∀ k, k < N → parseFieldDescriptor (T k).2.2.1 = some (ty k)) ∧ (∀ a, a < N → ∀ b, b < N → a ≠ b → (T a).2.1 ≠ (T b).2.1)
def qs_FF (own : String) (idx ci k : Nat) (ft : FieldType) : Prop := ∃ (C : String) (T : u_T) (N : Nat) (ty : Nat → FieldType), qs_cl ci C T N ty ∧ k < N ∧ ty k = ft ∧ (T k).1 = C ∧ (Cond.fieldLink own idx C (T k).2.1 (T k).2.2.1 ∈ qs_gT ∨ ∃ host, Cond.fieldLinkNest own idx C (T k).2.1 (T k).2.2.1 host ∈ qs_nT)
def qs_FW (own : String) (idx ci k : Nat) (ft : FieldType) : Prop := ∃ (C : String) (T : u_T) (N : Nat) (ty : Nat → FieldType), qs_cl ci C T N ty ∧ k < N ∧ ty k = ft ∧ (T k).1 = C ∧ (T k).2.2.2 = false ∧ (Cond.fieldLink own idx C (T k).2.1 (T k).2.2.1 ∈ qs_gT ∨ ∃ host, Cond.fieldLinkNest own idx C (T k).2.1 (T k).2.2.1 host ∈ qs_nT)
theorem qs_FW.FF {own : String} {idx ci k : Nat} {ft : FieldType} (h : qs_FW own idx ci k ft) : qs_FF own idx ci k ft := by
  obtain ⟨C, T, N, ty, h1, h2, h3, h4, h5, h6⟩ := h
  exact ⟨C, T, N, ty, h1, h2, h3, h4, h6⟩
def qs_CF (own : String) (idx : Nat) (y : MethodName) (mj : qs_M) (n : Nat) (isSt : Bool) : Prop :=
  Cond.code y mj.2.1 mj.2.2.1 mj.2.2.2 ∈ qs_gT ∧ Cond.initialized y.cls ∈ qs_gT ∧ mj.2.2.1 ≤ 20 ∧ (y.cls ≠ "java/lang/invoke/MethodHandle" ∧ y.cls ≠ "java/lang/invoke/VarHandle" ∧ (parseMethodDescriptor y.desc).map (fun d => d.parameters.length) = some n) ∧ (Cond.methodLink own idx y ∈ qs_gT ∨ ∃ host, Cond.methodLinkNest own idx y host ∈ qs_nT) ∧ (if isSt then Cond.static y ∈ qs_gT else Cond.instanceMethod y ∈ qs_gT ∧ Cond.selects y.cls y y ∈ qs_gT)
def qs_gcp {σ : Type} (sp dp n : Int32) (n0 n1 : Nat) (T : Option σ) : Option σ := if ¬ sp < 0 ∧ ¬ dp < 0 ∧ ¬ n < 0 ∧ sp.toNatClampNeg + n.toNatClampNeg ≤ n0 ∧ dp.toNatClampNeg + n.toNatClampNeg ≤ n1 then T else none
theorem qs_good {y : MethodName} {mj : qs_M} (h : Cond.code y mj.2.1 mj.2.2.1 mj.2.2.2 ∈ qs_gT) : GoodIn qs_gT (qs_ws y mj) := by
  intro w hw
  rcases List.mem_cons.mp hw with rfl | hw
  · exact ⟨h, good_of_word (qs_gW h)⟩
  · exact ⟨hw, good_of_word (qs_gW hw)⟩

section QS
variable {ρ : Type} {l : Launch} {E : qs_E} {A : Nat → Prop} {Sh : List qs_Sh} {mm : qs_M} {dp : Nat} {rv : ρ → Option Value} {pc : Nat} {lv : List (Nat × Value)} {st : List Value} {D : qs_D} {T T1 T2 : Option (ρ × qs_D)}
theorem qs_none : qs_VO l E A Sh mm dp rv pc lv st D none := fun X hX => by cases hX
theorem qs_sub {lv1 : List (Nat × Value)} (ks : List Nat) (h : ks.filterMap (fun k => lv[k]?) = lv1) (k : qs_VO l E A Sh mm dp rv pc lv1 st D T) : qs_VO l E A Sh mm dp rv pc lv st D T := by
  intro X hX p e s m args below meth c H locs ls hc hS hP hD hl
  refine k X hX p e s m args below meth c H locs ls hc hS hP hD ⟨hl.1, hl.2.1, fun q hq => ?_⟩
  obtain ⟨r, hr, rfl⟩ := List.mem_map.mp hq
  subst h
  obtain ⟨i, -, hi⟩ := List.mem_filterMap.mp hr
  exact hl.2.2 _ (List.mem_map.mpr ⟨r, List.mem_of_getElem? hi, rfl⟩)
theorem qs_ite {c : Prop} [Decidable c] (k1 : c → qs_VO l E A Sh mm dp rv pc lv st D T1) (k2 : ¬ c → qs_VO l E A Sh mm dp rv pc lv st D T2) : qs_VO l E A Sh mm dp rv pc lv st D (if c then T1 else T2) := by
  by_cases h : c
  · rw [if_pos h]; exact k1 h
  · rw [if_neg h]; exact k2 h
theorem qs_iconst {n : Int} {pc1 : Nat} (v : Int32) (hd : decode mm.2.1 pc = .ok (.iconst n, 1)) (hv : Int32.ofInt n = v) (hp : pc + 1 = pc1) (k : qs_VO l E A Sh mm dp rv pc1 lv (.int v :: st) D T) : qs_VO l E A Sh mm dp rv pc lv st D T := by
  subst hp
  exact fun X hX p e s m args below meth c H locs ls hc hS hP hD hl =>  lv_iconst hc.1 hc.2.1 hd hv (k X hX p e s m args below meth c H locs ls hc hS hP hD hl)
theorem qs_bipush {n : Int} {pc1 : Nat} (v : Int32) (hd : decode mm.2.1 pc = .ok (.bipush n, 2)) (hv : (Int8.ofInt n).toInt32 = v) (hp : pc + 2 = pc1) (k : qs_VO l E A Sh mm dp rv pc1 lv (.int v :: st) D T) : qs_VO l E A Sh mm dp rv pc lv st D T := by
  subst hp
  exact fun X hX p e s m args below meth c H locs ls hc hS hP hD hl =>  lv_bipush hc.1 hc.2.1 hd hv (k X hX p e s m args below meth c H locs ls hc hS hP hD hl)
theorem qs_sipush {n : Int} {pc1 : Nat} (v : Int32) (hd : decode mm.2.1 pc = .ok (.sipush n, 3)) (hv : (Int16.ofInt n).toInt32 = v) (hp : pc + 3 = pc1) (k : qs_VO l E A Sh mm dp rv pc1 lv (.int v :: st) D T) : qs_VO l E A Sh mm dp rv pc lv st D T := by
  subst hp
  exact fun X hX p e s m args below meth c H locs ls hc hS hP hD hl =>  lv_sipush hc.1 hc.2.1 hd hv (k X hX p e s m args below meth c H locs ls hc hS hP hD hl)
theorem qs_lconst {n : Fin 2} {pc1 : Nat} (v : Int64) (hd : decode mm.2.1 pc = .ok (.lconst n, 1)) (hv : Int64.ofNat (n : Nat) = v) (hp : pc + 1 = pc1) (k : qs_VO l E A Sh mm dp rv pc1 lv (.long v :: st) D T) : qs_VO l E A Sh mm dp rv pc lv st D T := by
  subst hp
  exact fun X hX p e s m args below meth c H locs ls hc hS hP hD hl =>  lv_lconst hc.1 hc.2.1 hd hv (k X hX p e s m args below meth c H locs ls hc hS hP hD hl)
theorem qs_ldc {idx pc1 : Nat} {v : Int32} (hw : Cond.constant mm.1 idx v ∈ qs_gT) (hd : decode mm.2.1 pc = .ok (.ldc idx, 2)) (hp : pc + 2 = pc1) (k : qs_VO l E A Sh mm dp rv pc1 lv (.int v :: st) D T) : qs_VO l E A Sh mm dp rv pc lv st D T := by
  subst hp
  exact fun X hX p e s m args below meth c H locs ls hc hS hP hD hl =>  lv_ldc hc.1 hc.2.1 hc.2.2.2.2.1 (hc.2.2.2.2.2.1 _ hw) hd (k X hX p e s m args below meth c H locs ls hc hS hP hD hl)
theorem qs_ldcw {idx pc1 : Nat} {v : Int32} (hw : Cond.constant mm.1 idx v ∈ qs_gT) (hd : decode mm.2.1 pc = .ok (.ldc_w idx, 3)) (hp : pc + 3 = pc1) (k : qs_VO l E A Sh mm dp rv pc1 lv (.int v :: st) D T) : qs_VO l E A Sh mm dp rv pc lv st D T := by
  subst hp
  exact fun X hX p e s m args below meth c H locs ls hc hS hP hD hl =>  lv_ldcw hc.1 hc.2.1 hc.2.2.2.2.1 (hc.2.2.2.2.2.1 _ hw) hd (k X hX p e s m args below meth c H locs ls hc hS hP hD hl)
theorem qs_ldcS {idx pc1 k0 : Nat} {tx : String} {bs : List Int32} (hm : mm.1 = RX3) (hw : qs_strs[k0]? = some (idx, tx, bs)) (hd : decode mm.2.1 pc = .ok (.ldc idx, 2)) (hp : pc + 2 = pc1) (k : qs_VO l E A Sh mm dp rv pc1 lv (.ref (1000 + k0) :: st) D T) : qs_VO l E A Sh mm dp rv pc lv st D T := by
  subst hp
  exact fun X hX p e s m args below meth c H locs ls hc hS hP hD hl =>  va_ldcS (own := RX3) (tx := tx) hc.1 hc.2.1 (by rw [← hm]; exact hc.2.2.2.2.1) (hc.2.2.2.2.2.2.2.2.2.2.1 k0 _ hw) hd (k X hX p e s m args below meth c H locs ls hc hS hP hD hl)
theorem qs_iload_n {j : Fin 4} {i pc1 : Nat} {x : Int32} (hd : decode mm.2.1 pc = .ok (.iload_n j, 1)) (hi : (j : Nat) = i) (hk : qs_lk lv i = some (.int x)) (hp : pc + 1 = pc1) (k : qs_VO l E A Sh mm dp rv pc1 lv (.int x :: st) D T) : qs_VO l E A Sh mm dp rv pc lv st D T := by
  subst hp
  exact fun X hX p e s m args below meth c H locs ls hc hS hP hD hl =>  lv_iload_n hc.1 hc.2.1 hd hi (qs_get hl hk) (k X hX p e s m args below meth c H locs ls hc hS hP hD hl)
theorem qs_iload {i pc1 : Nat} {x : Int32} (hd : decode mm.2.1 pc = .ok (.iload i, 2)) (hk : qs_lk lv i = some (.int x)) (hp : pc + 2 = pc1) (k : qs_VO l E A Sh mm dp rv pc1 lv (.int x :: st) D T) : qs_VO l E A Sh mm dp rv pc lv st D T := by
  subst hp
  exact fun X hX p e s m args below meth c H locs ls hc hS hP hD hl =>  lv_iload hc.1 hc.2.1 hd (qs_get hl hk) (k X hX p e s m args below meth c H locs ls hc hS hP hD hl)
theorem qs_lload_n {j : Fin 4} {i pc1 : Nat} {x : Int64} (hd : decode mm.2.1 pc = .ok (.lload_n j, 1)) (hi : (j : Nat) = i) (hk : qs_lk lv i = some (.long x)) (hp : pc + 1 = pc1) (k : qs_VO l E A Sh mm dp rv pc1 lv (.long x :: st) D T) : qs_VO l E A Sh mm dp rv pc lv st D T := by
  subst hp
  exact fun X hX p e s m args below meth c H locs ls hc hS hP hD hl =>  lv_lload_n hc.1 hc.2.1 hd hi (qs_get hl hk) (k X hX p e s m args below meth c H locs ls hc hS hP hD hl)
theorem qs_lload {i pc1 : Nat} {x : Int64} (hd : decode mm.2.1 pc = .ok (.lload i, 2)) (hk : qs_lk lv i = some (.long x)) (hp : pc + 2 = pc1) (k : qs_VO l E A Sh mm dp rv pc1 lv (.long x :: st) D T) : qs_VO l E A Sh mm dp rv pc lv st D T := by
  subst hp
  exact fun X hX p e s m args below meth c H locs ls hc hS hP hD hl =>  lv_lload hc.1 hc.2.1 hd (qs_get hl hk) (k X hX p e s m args below meth c H locs ls hc hS hP hD hl)
theorem qs_aload_n {j : Fin 4} {i pc1 : Nat} {x : Nat} (hd : decode mm.2.1 pc = .ok (.aload_n j, 1)) (hi : (j : Nat) = i) (hk : qs_lk lv i = some (.ref x)) (hp : pc + 1 = pc1) (k : qs_VO l E A Sh mm dp rv pc1 lv (.ref x :: st) D T) : qs_VO l E A Sh mm dp rv pc lv st D T := by
  subst hp
  exact fun X hX p e s m args below meth c H locs ls hc hS hP hD hl =>  lv_aload_n hc.1 hc.2.1 hd hi (qs_get hl hk) (k X hX p e s m args below meth c H locs ls hc hS hP hD hl)
theorem qs_aload {i pc1 : Nat} {x : Nat} (hd : decode mm.2.1 pc = .ok (.aload i, 2)) (hk : qs_lk lv i = some (.ref x)) (hp : pc + 2 = pc1) (k : qs_VO l E A Sh mm dp rv pc1 lv (.ref x :: st) D T) : qs_VO l E A Sh mm dp rv pc lv st D T := by
  subst hp
  exact fun X hX p e s m args below meth c H locs ls hc hS hP hD hl =>  lv_aload hc.1 hc.2.1 hd (qs_get hl hk) (k X hX p e s m args below meth c H locs ls hc hS hP hD hl)
theorem qs_istore_n {j : Fin 4} {i pc1 : Nat} {x : Int32} {F : Int32 → Option (ρ × qs_D)} (lv1 : Int32 → List (Nat × Value)) (hd : decode mm.2.1 pc = .ok (.istore_n j, 1)) (hi : (j : Nat) = i) (hn : i < mm.2.2.1) (hv : ∀ y, qs_st lv i (.int y) = lv1 y) (hp : pc + 1 = pc1) (k : ∀ y : Int32, qs_VO l E A Sh mm dp rv pc1 (lv1 y) st D (F y)) : qs_VO l E A Sh mm dp rv pc lv (.int x :: st) D (qs_let x F) := by
  subst hp
  intro X hX p e s m args below meth c H locs ls hc hS hP hD hl
  exact lv_istore_n (lv := qs_lv E lv) (lv' := qs_lv E (lv1 x)) hc.1 hc.2.1 hd hi hl hn (by rw [← hv x]; exact qs_st_lv E lv i (.int x)) (fun ls hl => k x X hX p e s m args below meth c H locs ls hc hS hP hD hl)
theorem qs_istore {i pc1 : Nat} {x : Int32} {F : Int32 → Option (ρ × qs_D)} (lv1 : Int32 → List (Nat × Value)) (hd : decode mm.2.1 pc = .ok (.istore i, 2)) (hn : i < mm.2.2.1) (hv : ∀ y, qs_st lv i (.int y) = lv1 y) (hp : pc + 2 = pc1) (k : ∀ y : Int32, qs_VO l E A Sh mm dp rv pc1 (lv1 y) st D (F y)) : qs_VO l E A Sh mm dp rv pc lv (.int x :: st) D (qs_let x F) := by
  subst hp
  intro X hX p e s m args below meth c H locs ls hc hS hP hD hl
  exact lv_istore (lv := qs_lv E lv) (lv' := qs_lv E (lv1 x)) hc.1 hc.2.1 hd hl hn (by rw [← hv x]; exact qs_st_lv E lv i (.int x)) (fun ls hl => k x X hX p e s m args below meth c H locs ls hc hS hP hD hl)
theorem qs_lstore_n {j : Fin 4} {i pc1 : Nat} {x : Int64} {F : Int64 → Option (ρ × qs_D)} (lv1 : Int64 → List (Nat × Value)) (hd : decode mm.2.1 pc = .ok (.lstore_n j, 1)) (hi : (j : Nat) = i) (hn : i + 1 < mm.2.2.1) (hv : ∀ y, qs_st2 lv i (.long y) = lv1 y) (hp : pc + 1 = pc1) (k : ∀ y : Int64, qs_VO l E A Sh mm dp rv pc1 (lv1 y) st D (F y)) : qs_VO l E A Sh mm dp rv pc lv (.long x :: st) D (qs_let x F) := by
  subst hp
  intro X hX p e s m args below meth c H locs ls hc hS hP hD hl
  exact lv_lstore_n (lv := qs_lv E lv) (lv' := qs_lv E (lv1 x)) hc.1 hc.2.1 hd hi hl hn (by rw [← hv x]; exact qs_st2_lv E lv i (.long x)) (fun ls hl => k x X hX p e s m args below meth c H locs ls hc hS hP hD hl)
theorem qs_lstore {i pc1 : Nat} {x : Int64} {F : Int64 → Option (ρ × qs_D)} (lv1 : Int64 → List (Nat × Value)) (hd : decode mm.2.1 pc = .ok (.lstore i, 2)) (hn : i + 1 < mm.2.2.1) (hv : ∀ y, qs_st2 lv i (.long y) = lv1 y) (hp : pc + 2 = pc1) (k : ∀ y : Int64, qs_VO l E A Sh mm dp rv pc1 (lv1 y) st D (F y)) : qs_VO l E A Sh mm dp rv pc lv (.long x :: st) D (qs_let x F) := by
  subst hp
  intro X hX p e s m args below meth c H locs ls hc hS hP hD hl
  exact lv_lstore (lv := qs_lv E lv) (lv' := qs_lv E (lv1 x)) hc.1 hc.2.1 hd hl hn (by rw [← hv x]; exact qs_st2_lv E lv i (.long x)) (fun ls hl => k x X hX p e s m args below meth c H locs ls hc hS hP hD hl)
theorem qs_astore_n {j : Fin 4} {i pc1 x : Nat} (lv1 : List (Nat × Value)) (hd : decode mm.2.1 pc = .ok (.astore_n j, 1)) (hi : (j : Nat) = i) (hn : i < mm.2.2.1) (hv : qs_st lv i (.ref x) = lv1) (hp : pc + 1 = pc1) (k : qs_VO l E A Sh mm dp rv pc1 lv1 st D T) : qs_VO l E A Sh mm dp rv pc lv (.ref x :: st) D T := by
  subst hp
  intro X hX p e s m args below meth c H locs ls hc hS hP hD hl
  exact lv_astore_n (lv := qs_lv E lv) (lv' := qs_lv E lv1) hc.1 hc.2.1 hd hi hl hn (by rw [← hv]; exact qs_st_lv E lv i (.ref x)) (fun ls hl => k X hX p e s m args below meth c H locs ls hc hS hP hD hl)
theorem qs_astore {i pc1 x : Nat} (lv1 : List (Nat × Value)) (hd : decode mm.2.1 pc = .ok (.astore i, 2)) (hn : i < mm.2.2.1) (hv : qs_st lv i (.ref x) = lv1) (hp : pc + 2 = pc1) (k : qs_VO l E A Sh mm dp rv pc1 lv1 st D T) : qs_VO l E A Sh mm dp rv pc lv (.ref x :: st) D T := by
  subst hp
  intro X hX p e s m args below meth c H locs ls hc hS hP hD hl
  exact lv_astore (lv := qs_lv E lv) (lv' := qs_lv E lv1) hc.1 hc.2.1 hd hl hn (by rw [← hv]; exact qs_st_lv E lv i (.ref x)) (fun ls hl => k X hX p e s m args below meth c H locs ls hc hS hP hD hl)
theorem qs_iinc {i pc1 : Nat} {n : Int} {x : Int32} {F : Int32 → Option (ρ × qs_D)} (lv1 : Int32 → List (Nat × Value)) (v : Int32) (hd : decode mm.2.1 pc = .ok (.iinc i n, 3)) (hk : qs_lk lv i = some (.int x)) (hc0 : Int32.ofInt n = v) (hn : i < mm.2.2.1) (hv : ∀ y, qs_st lv i (.int y) = lv1 y) (hp : pc + 3 = pc1) (k : ∀ y : Int32, qs_VO l E A Sh mm dp rv pc1 (lv1 y) st D (F y)) : qs_VO l E A Sh mm dp rv pc lv st D (qs_let (x + v) F) := by
  subst hp
  subst hc0
  intro X hX p e s m args below meth c H locs ls hc hS hP hD hl
  obtain ⟨q, hq⟩ := List.getElem?_of_mem (List.mem_map.mpr ⟨(i, Value.int x), qs_lk_mem hk, rfl⟩ : (i, Value.int x) ∈ qs_lv E lv)
  exact lv_iinc (lv := qs_lv E lv) (lv' := qs_lv E (lv1 (x + Int32.ofInt n))) hc.1 hc.2.1 hd hl hq rfl hn (by rw [← hv _]; exact qs_st_lv E lv i (.int (x + Int32.ofInt n))) (fun ls hl => k _ X hX p e s m args below meth c H locs ls hc hS hP hD hl)
theorem qs_iadd {pc1 : Nat} {x y : Int32} (hd : decode mm.2.1 pc = .ok (.iadd, 1)) (hp : pc + 1 = pc1) (k : qs_VO l E A Sh mm dp rv pc1 lv (.int (x + y) :: st) D T) : qs_VO l E A Sh mm dp rv pc lv (.int y :: .int x :: st) D T := by
  subst hp
  exact fun X hX p e s m args below meth c H locs ls hc hS hP hD hl =>  lv_iadd hc.1 hc.2.1 hd (k X hX p e s m args below meth c H locs ls hc hS hP hD hl)
theorem qs_isub {pc1 : Nat} {x y : Int32} (hd : decode mm.2.1 pc = .ok (.isub, 1)) (hp : pc + 1 = pc1) (k : qs_VO l E A Sh mm dp rv pc1 lv (.int (x - y) :: st) D T) : qs_VO l E A Sh mm dp rv pc lv (.int y :: .int x :: st) D T := by
  subst hp
  exact fun X hX p e s m args below meth c H locs ls hc hS hP hD hl =>  lv_isub hc.1 hc.2.1 hd (k X hX p e s m args below meth c H locs ls hc hS hP hD hl)
theorem qs_imul {pc1 : Nat} {x y : Int32} (hd : decode mm.2.1 pc = .ok (.imul, 1)) (hp : pc + 1 = pc1) (k : qs_VO l E A Sh mm dp rv pc1 lv (.int (x * y) :: st) D T) : qs_VO l E A Sh mm dp rv pc lv (.int y :: .int x :: st) D T := by
  subst hp
  exact fun X hX p e s m args below meth c H locs ls hc hS hP hD hl =>  lv_imul hc.1 hc.2.1 hd (k X hX p e s m args below meth c H locs ls hc hS hP hD hl)
theorem qs_iand {pc1 : Nat} {x y : Int32} (hd : decode mm.2.1 pc = .ok (.iand, 1)) (hp : pc + 1 = pc1) (k : qs_VO l E A Sh mm dp rv pc1 lv (.int (x &&& y) :: st) D T) : qs_VO l E A Sh mm dp rv pc lv (.int y :: .int x :: st) D T := by
  subst hp
  exact fun X hX p e s m args below meth c H locs ls hc hS hP hD hl =>  lv_iand hc.1 hc.2.1 hd (k X hX p e s m args below meth c H locs ls hc hS hP hD hl)
theorem qs_ior {pc1 : Nat} {x y : Int32} (hd : decode mm.2.1 pc = .ok (.ior, 1)) (hp : pc + 1 = pc1) (k : qs_VO l E A Sh mm dp rv pc1 lv (.int (x ||| y) :: st) D T) : qs_VO l E A Sh mm dp rv pc lv (.int y :: .int x :: st) D T := by
  subst hp
  exact fun X hX p e s m args below meth c H locs ls hc hS hP hD hl =>  lv_ior hc.1 hc.2.1 hd (k X hX p e s m args below meth c H locs ls hc hS hP hD hl)
theorem qs_ixor {pc1 : Nat} {x y : Int32} (hd : decode mm.2.1 pc = .ok (.ixor, 1)) (hp : pc + 1 = pc1) (k : qs_VO l E A Sh mm dp rv pc1 lv (.int (x ^^^ y) :: st) D T) : qs_VO l E A Sh mm dp rv pc lv (.int y :: .int x :: st) D T := by
  subst hp
  exact fun X hX p e s m args below meth c H locs ls hc hS hP hD hl =>  lv_ixor hc.1 hc.2.1 hd (k X hX p e s m args below meth c H locs ls hc hS hP hD hl)
theorem qs_ineg {pc1 : Nat} {x : Int32} (hd : decode mm.2.1 pc = .ok (.ineg, 1)) (hp : pc + 1 = pc1) (k : qs_VO l E A Sh mm dp rv pc1 lv (.int (-x) :: st) D T) : qs_VO l E A Sh mm dp rv pc lv (.int x :: st) D T := by
  subst hp
  exact fun X hX p e s m args below meth c H locs ls hc hS hP hD hl =>  lv_ineg hc.1 hc.2.1 hd (k X hX p e s m args below meth c H locs ls hc hS hP hD hl)
theorem qs_idiv {pc1 : Nat} {x y : Int32} (hd : decode mm.2.1 pc = .ok (.idiv, 1)) (hne : ¬ y = 0) (hp : pc + 1 = pc1) (k : qs_VO l E A Sh mm dp rv pc1 lv (.int (x / y) :: st) D T) : qs_VO l E A Sh mm dp rv pc lv (.int y :: .int x :: st) D T := by
  subst hp
  exact fun X hX p e s m args below meth c H locs ls hc hS hP hD hl =>  lv_idiv hc.1 hc.2.1 hd hne (k X hX p e s m args below meth c H locs ls hc hS hP hD hl)
theorem qs_idivz {pc1 : Nat} {x y : Int32} (hd : decode mm.2.1 pc = .ok (.idiv, 1)) (hp : pc + 1 = pc1) (k : ¬ y = 0 → qs_VO l E A Sh mm dp rv pc1 lv (.int (x / y) :: st) D T) : qs_VO l E A Sh mm dp rv pc lv (.int y :: .int x :: st) D (qs_gz y T) := by
  subst hp
  unfold qs_gz
  refine qs_ite (fun _ => qs_none) (fun hy => ?_)
  exact fun X hX p e s m args below meth c H locs ls hc hS hP hD hl =>  lv_idiv hc.1 hc.2.1 hd hy (k hy X hX p e s m args below meth c H locs ls hc hS hP hD hl)
theorem qs_irem {pc1 : Nat} {x y : Int32} (hd : decode mm.2.1 pc = .ok (.irem, 1)) (hne : ¬ y = 0) (hp : pc + 1 = pc1) (k : qs_VO l E A Sh mm dp rv pc1 lv (.int (x - x / y * y) :: st) D T) : qs_VO l E A Sh mm dp rv pc lv (.int y :: .int x :: st) D T := by
  subst hp
  exact fun X hX p e s m args below meth c H locs ls hc hS hP hD hl =>  lv_irem hc.1 hc.2.1 hd hne (k X hX p e s m args below meth c H locs ls hc hS hP hD hl)
theorem qs_iremz {pc1 : Nat} {x y : Int32} (hd : decode mm.2.1 pc = .ok (.irem, 1)) (hp : pc + 1 = pc1) (k : ¬ y = 0 → qs_VO l E A Sh mm dp rv pc1 lv (.int (x - x / y * y) :: st) D T) : qs_VO l E A Sh mm dp rv pc lv (.int y :: .int x :: st) D (qs_gz y T) := by
  subst hp
  unfold qs_gz
  refine qs_ite (fun _ => qs_none) (fun hy => ?_)
  exact fun X hX p e s m args below meth c H locs ls hc hS hP hD hl =>  lv_irem hc.1 hc.2.1 hd hy (k hy X hX p e s m args below meth c H locs ls hc hS hP hD hl)
theorem qs_lmul {pc1 : Nat} {x y : Int64} (hd : decode mm.2.1 pc = .ok (.lmul, 1)) (hp : pc + 1 = pc1) (k : qs_VO l E A Sh mm dp rv pc1 lv (.long (x * y) :: st) D T) : qs_VO l E A Sh mm dp rv pc lv (.long y :: .long x :: st) D T := by
  subst hp
  exact fun X hX p e s m args below meth c H locs ls hc hS hP hD hl =>  lv_lmul hc.1 hc.2.1 hd (k X hX p e s m args below meth c H locs ls hc hS hP hD hl)
theorem qs_i2l {pc1 : Nat} {x : Int32} (hd : decode mm.2.1 pc = .ok (.i2l, 1)) (hp : pc + 1 = pc1) (k : qs_VO l E A Sh mm dp rv pc1 lv (.long x.toInt64 :: st) D T) : qs_VO l E A Sh mm dp rv pc lv (.int x :: st) D T := by
  subst hp
  exact fun X hX p e s m args below meth c H locs ls hc hS hP hD hl =>  lv_i2l hc.1 hc.2.1 hd rfl (k X hX p e s m args below meth c H locs ls hc hS hP hD hl)
theorem qs_i2b {pc1 : Nat} {x : Int32} (hd : decode mm.2.1 pc = .ok (.i2b, 1)) (hp : pc + 1 = pc1) (k : qs_VO l E A Sh mm dp rv pc1 lv (.int (x.toInt8.toInt32) :: st) D T) : qs_VO l E A Sh mm dp rv pc lv (.int x :: st) D T := by
  subst hp
  exact fun X hX p e s m args below meth c H locs ls hc hS hP hD hl =>  lv_i2b hc.1 hc.2.1 hd rfl (k X hX p e s m args below meth c H locs ls hc hS hP hD hl)
theorem qs_i2s {pc1 : Nat} {x : Int32} (hd : decode mm.2.1 pc = .ok (.i2s, 1)) (hp : pc + 1 = pc1) (k : qs_VO l E A Sh mm dp rv pc1 lv (.int (x.toInt16.toInt32) :: st) D T) : qs_VO l E A Sh mm dp rv pc lv (.int x :: st) D T := by
  subst hp
  exact fun X hX p e s m args below meth c H locs ls hc hS hP hD hl =>  lv_i2s hc.1 hc.2.1 hd rfl (k X hX p e s m args below meth c H locs ls hc hS hP hD hl)
theorem qs_iushr {pc1 : Nat} {x y : Int32} (hd : decode mm.2.1 pc = .ok (.iushr, 1)) (hp : pc + 1 = pc1) (k : qs_VO l E A Sh mm dp rv pc1 lv (.int ((x.toUInt32 >>> (y.toUInt32 &&& Int32.toUInt32 31)).toInt32) :: st) D T) : qs_VO l E A Sh mm dp rv pc lv (.int y :: .int x :: st) D T := by
  subst hp
  exact fun X hX p e s m args below meth c H locs ls hc hS hP hD hl =>  lv_iushr hc.1 hc.2.1 hd rfl (k X hX p e s m args below meth c H locs ls hc hS hP hD hl)
theorem qs_ishl {pc1 : Nat} {x y : Int32} (hd : decode mm.2.1 pc = .ok (.ishl, 1)) (hp : pc + 1 = pc1) (k : qs_VO l E A Sh mm dp rv pc1 lv (.int (x <<< (y &&& 31)) :: st) D T) : qs_VO l E A Sh mm dp rv pc lv (.int y :: .int x :: st) D T := by
  subst hp
  exact fun X hX p e s m args below meth c H locs ls hc hS hP hD hl =>  lv_ishl hc.1 hc.2.1 hd (k X hX p e s m args below meth c H locs ls hc hS hP hD hl)
theorem qs_ishr {pc1 : Nat} {x y : Int32} (hd : decode mm.2.1 pc = .ok (.ishr, 1)) (hp : pc + 1 = pc1) (k : qs_VO l E A Sh mm dp rv pc1 lv (.int (x >>> (y &&& 31)) :: st) D T) : qs_VO l E A Sh mm dp rv pc lv (.int y :: .int x :: st) D T := by
  subst hp
  exact fun X hX p e s m args below meth c H locs ls hc hS hP hD hl =>  lv_ishr hc.1 hc.2.1 hd (k X hX p e s m args below meth c H locs ls hc hS hP hD hl)
theorem qs_dup {pc1 : Nat} {v : Value} (hd : decode mm.2.1 pc = .ok (.dup, 1)) (hv : v.category = 1) (hp : pc + 1 = pc1) (k : qs_VO l E A Sh mm dp rv pc1 lv (v :: v :: st) D T) : qs_VO l E A Sh mm dp rv pc lv (v :: st) D T := by
  subst hp
  exact fun X hX p e s m args below meth c H locs ls hc hS hP hD hl =>  lv_dup hc.1 hc.2.1 hd (by rw [qs_cat]; exact hv) (k X hX p e s m args below meth c H locs ls hc hS hP hD hl)
theorem qs_pop {pc1 : Nat} {v : Value} (hd : decode mm.2.1 pc = .ok (.pop, 1)) (hv : v.category = 1) (hp : pc + 1 = pc1) (k : qs_VO l E A Sh mm dp rv pc1 lv st D T) : qs_VO l E A Sh mm dp rv pc lv (v :: st) D T := by
  subst hp
  exact fun X hX p e s m args below meth c H locs ls hc hS hP hD hl =>  lv_pop hc.1 hc.2.1 hd (by rw [qs_cat]; exact hv) (k X hX p e s m args below meth c H locs ls hc hS hP hD hl)
theorem qs_dup2 {pc1 : Nat} {v w : Value} (hd : decode mm.2.1 pc = .ok (.dup2, 1)) (hv : v.category = 1) (hw : w.category = 1) (hp : pc + 1 = pc1) (k : qs_VO l E A Sh mm dp rv pc1 lv (v :: w :: v :: w :: st) D T) : qs_VO l E A Sh mm dp rv pc lv (v :: w :: st) D T := by
  subst hp
  exact fun X hX p e s m args below meth c H locs ls hc hS hP hD hl =>  lv_dup2_11 hc.1 hc.2.1 hd (by rw [qs_cat]; exact hv) (by rw [qs_cat]; exact hw) (k X hX p e s m args below meth c H locs ls hc hS hP hD hl)
theorem qs_if_eq {off : Int} {tgt pc1 : Nat} {x : Int32} (hd : decode mm.2.1 pc = .ok (.ifCond .eq off, 3)) (ht : (pc : Int) + off = (tgt : Int)) (hp : pc + 3 = pc1) (k1 : x = 0 → qs_VO l E A Sh mm dp rv tgt lv st D T1) (k2 : ¬ x = 0 → qs_VO l E A Sh mm dp rv pc1 lv st D T2) : qs_VO l E A Sh mm dp rv pc lv (.int x :: st) D (if x = 0 then T1 else T2) := by
  subst hp
  refine qs_ite (fun h => ?_) (fun h => ?_)
  · exact fun X hX p e s m args below meth c H locs ls hc hS hP hD hl =>  lv_if_eq hc.1 hc.2.1 hd ht (fun h => k1 h X hX p e s m args below meth c H locs ls hc hS hP hD hl) (fun h2 => absurd h h2)
  · exact fun X hX p e s m args below meth c H locs ls hc hS hP hD hl =>  lv_if_eq hc.1 hc.2.1 hd ht (fun h2 => absurd h2 h) (fun h => k2 h X hX p e s m args below meth c H locs ls hc hS hP hD hl)
theorem qs_icmp_eq {off : Int} {tgt pc1 : Nat} {x y : Int32} (hd : decode mm.2.1 pc = .ok (.if_icmp .eq off, 3)) (ht : (pc : Int) + off = (tgt : Int)) (hp : pc + 3 = pc1) (k1 : x = y → qs_VO l E A Sh mm dp rv tgt lv st D T1) (k2 : ¬ x = y → qs_VO l E A Sh mm dp rv pc1 lv st D T2) : qs_VO l E A Sh mm dp rv pc lv (.int y :: .int x :: st) D (if x = y then T1 else T2) := by
  subst hp
  refine qs_ite (fun h => ?_) (fun h => ?_)
  · exact fun X hX p e s m args below meth c H locs ls hc hS hP hD hl =>  lv_icmp_eq hc.1 hc.2.1 hd ht (fun h => k1 h X hX p e s m args below meth c H locs ls hc hS hP hD hl) (fun h2 => absurd h h2)
  · exact fun X hX p e s m args below meth c H locs ls hc hS hP hD hl =>  lv_icmp_eq hc.1 hc.2.1 hd ht (fun h2 => absurd h2 h) (fun h => k2 h X hX p e s m args below meth c H locs ls hc hS hP hD hl)
theorem qs_if_lt {off : Int} {tgt pc1 : Nat} {x : Int32} (hd : decode mm.2.1 pc = .ok (.ifCond .lt off, 3)) (ht : (pc : Int) + off = (tgt : Int)) (hp : pc + 3 = pc1) (k1 : x < 0 → qs_VO l E A Sh mm dp rv tgt lv st D T1) (k2 : ¬ x < 0 → qs_VO l E A Sh mm dp rv pc1 lv st D T2) : qs_VO l E A Sh mm dp rv pc lv (.int x :: st) D (if x < 0 then T1 else T2) := by
  subst hp
  refine qs_ite (fun h => ?_) (fun h => ?_)
  · exact fun X hX p e s m args below meth c H locs ls hc hS hP hD hl =>  lv_if_lt hc.1 hc.2.1 hd ht (fun h => k1 h X hX p e s m args below meth c H locs ls hc hS hP hD hl) (fun h2 => absurd h h2)
  · exact fun X hX p e s m args below meth c H locs ls hc hS hP hD hl =>  lv_if_lt hc.1 hc.2.1 hd ht (fun h2 => absurd h2 h) (fun h => k2 h X hX p e s m args below meth c H locs ls hc hS hP hD hl)
theorem qs_icmp_lt {off : Int} {tgt pc1 : Nat} {x y : Int32} (hd : decode mm.2.1 pc = .ok (.if_icmp .lt off, 3)) (ht : (pc : Int) + off = (tgt : Int)) (hp : pc + 3 = pc1) (k1 : x < y → qs_VO l E A Sh mm dp rv tgt lv st D T1) (k2 : ¬ x < y → qs_VO l E A Sh mm dp rv pc1 lv st D T2) : qs_VO l E A Sh mm dp rv pc lv (.int y :: .int x :: st) D (if x < y then T1 else T2) := by
  subst hp
  refine qs_ite (fun h => ?_) (fun h => ?_)
  · exact fun X hX p e s m args below meth c H locs ls hc hS hP hD hl =>  lv_icmp_lt hc.1 hc.2.1 hd ht (fun h => k1 h X hX p e s m args below meth c H locs ls hc hS hP hD hl) (fun h2 => absurd h h2)
  · exact fun X hX p e s m args below meth c H locs ls hc hS hP hD hl =>  lv_icmp_lt hc.1 hc.2.1 hd ht (fun h2 => absurd h2 h) (fun h => k2 h X hX p e s m args below meth c H locs ls hc hS hP hD hl)
theorem qs_if_ge {off : Int} {tgt pc1 : Nat} {x : Int32} (hd : decode mm.2.1 pc = .ok (.ifCond .ge off, 3)) (ht : (pc : Int) + off = (tgt : Int)) (hp : pc + 3 = pc1) (k1 : 0 ≤ x → qs_VO l E A Sh mm dp rv tgt lv st D T1) (k2 : ¬ 0 ≤ x → qs_VO l E A Sh mm dp rv pc1 lv st D T2) : qs_VO l E A Sh mm dp rv pc lv (.int x :: st) D (if 0 ≤ x then T1 else T2) := by
  subst hp
  refine qs_ite (fun h => ?_) (fun h => ?_)
  · exact fun X hX p e s m args below meth c H locs ls hc hS hP hD hl =>  lv_if_ge hc.1 hc.2.1 hd ht (fun h => k1 h X hX p e s m args below meth c H locs ls hc hS hP hD hl) (fun h2 => absurd h h2)
  · exact fun X hX p e s m args below meth c H locs ls hc hS hP hD hl =>  lv_if_ge hc.1 hc.2.1 hd ht (fun h2 => absurd h2 h) (fun h => k2 h X hX p e s m args below meth c H locs ls hc hS hP hD hl)
theorem qs_icmp_ge {off : Int} {tgt pc1 : Nat} {x y : Int32} (hd : decode mm.2.1 pc = .ok (.if_icmp .ge off, 3)) (ht : (pc : Int) + off = (tgt : Int)) (hp : pc + 3 = pc1) (k1 : y ≤ x → qs_VO l E A Sh mm dp rv tgt lv st D T1) (k2 : ¬ y ≤ x → qs_VO l E A Sh mm dp rv pc1 lv st D T2) : qs_VO l E A Sh mm dp rv pc lv (.int y :: .int x :: st) D (if y ≤ x then T1 else T2) := by
  subst hp
  refine qs_ite (fun h => ?_) (fun h => ?_)
  · exact fun X hX p e s m args below meth c H locs ls hc hS hP hD hl =>  lv_icmp_ge hc.1 hc.2.1 hd ht (fun h => k1 h X hX p e s m args below meth c H locs ls hc hS hP hD hl) (fun h2 => absurd h h2)
  · exact fun X hX p e s m args below meth c H locs ls hc hS hP hD hl =>  lv_icmp_ge hc.1 hc.2.1 hd ht (fun h2 => absurd h2 h) (fun h => k2 h X hX p e s m args below meth c H locs ls hc hS hP hD hl)
theorem qs_if_gt {off : Int} {tgt pc1 : Nat} {x : Int32} (hd : decode mm.2.1 pc = .ok (.ifCond .gt off, 3)) (ht : (pc : Int) + off = (tgt : Int)) (hp : pc + 3 = pc1) (k1 : 0 < x → qs_VO l E A Sh mm dp rv tgt lv st D T1) (k2 : ¬ 0 < x → qs_VO l E A Sh mm dp rv pc1 lv st D T2) : qs_VO l E A Sh mm dp rv pc lv (.int x :: st) D (if 0 < x then T1 else T2) := by
  subst hp
  refine qs_ite (fun h => ?_) (fun h => ?_)
  · exact fun X hX p e s m args below meth c H locs ls hc hS hP hD hl =>  lv_if_gt hc.1 hc.2.1 hd ht (fun h => k1 h X hX p e s m args below meth c H locs ls hc hS hP hD hl) (fun h2 => absurd h h2)
  · exact fun X hX p e s m args below meth c H locs ls hc hS hP hD hl =>  lv_if_gt hc.1 hc.2.1 hd ht (fun h2 => absurd h2 h) (fun h => k2 h X hX p e s m args below meth c H locs ls hc hS hP hD hl)
theorem qs_icmp_gt {off : Int} {tgt pc1 : Nat} {x y : Int32} (hd : decode mm.2.1 pc = .ok (.if_icmp .gt off, 3)) (ht : (pc : Int) + off = (tgt : Int)) (hp : pc + 3 = pc1) (k1 : y < x → qs_VO l E A Sh mm dp rv tgt lv st D T1) (k2 : ¬ y < x → qs_VO l E A Sh mm dp rv pc1 lv st D T2) : qs_VO l E A Sh mm dp rv pc lv (.int y :: .int x :: st) D (if y < x then T1 else T2) := by
  subst hp
  refine qs_ite (fun h => ?_) (fun h => ?_)
  · exact fun X hX p e s m args below meth c H locs ls hc hS hP hD hl =>  lv_icmp_gt hc.1 hc.2.1 hd ht (fun h => k1 h X hX p e s m args below meth c H locs ls hc hS hP hD hl) (fun h2 => absurd h h2)
  · exact fun X hX p e s m args below meth c H locs ls hc hS hP hD hl =>  lv_icmp_gt hc.1 hc.2.1 hd ht (fun h2 => absurd h2 h) (fun h => k2 h X hX p e s m args below meth c H locs ls hc hS hP hD hl)
theorem qs_if_le {off : Int} {tgt pc1 : Nat} {x : Int32} (hd : decode mm.2.1 pc = .ok (.ifCond .le off, 3)) (ht : (pc : Int) + off = (tgt : Int)) (hp : pc + 3 = pc1) (k1 : x ≤ 0 → qs_VO l E A Sh mm dp rv tgt lv st D T1) (k2 : ¬ x ≤ 0 → qs_VO l E A Sh mm dp rv pc1 lv st D T2) : qs_VO l E A Sh mm dp rv pc lv (.int x :: st) D (if x ≤ 0 then T1 else T2) := by
  subst hp
  refine qs_ite (fun h => ?_) (fun h => ?_)
  · exact fun X hX p e s m args below meth c H locs ls hc hS hP hD hl =>  lv_if_le hc.1 hc.2.1 hd ht (fun h => k1 h X hX p e s m args below meth c H locs ls hc hS hP hD hl) (fun h2 => absurd h h2)
  · exact fun X hX p e s m args below meth c H locs ls hc hS hP hD hl =>  lv_if_le hc.1 hc.2.1 hd ht (fun h2 => absurd h2 h) (fun h => k2 h X hX p e s m args below meth c H locs ls hc hS hP hD hl)
theorem qs_icmp_le {off : Int} {tgt pc1 : Nat} {x y : Int32} (hd : decode mm.2.1 pc = .ok (.if_icmp .le off, 3)) (ht : (pc : Int) + off = (tgt : Int)) (hp : pc + 3 = pc1) (k1 : x ≤ y → qs_VO l E A Sh mm dp rv tgt lv st D T1) (k2 : ¬ x ≤ y → qs_VO l E A Sh mm dp rv pc1 lv st D T2) : qs_VO l E A Sh mm dp rv pc lv (.int y :: .int x :: st) D (if x ≤ y then T1 else T2) := by
  subst hp
  refine qs_ite (fun h => ?_) (fun h => ?_)
  · exact fun X hX p e s m args below meth c H locs ls hc hS hP hD hl =>  lv_icmp_le hc.1 hc.2.1 hd ht (fun h => k1 h X hX p e s m args below meth c H locs ls hc hS hP hD hl) (fun h2 => absurd h h2)
  · exact fun X hX p e s m args below meth c H locs ls hc hS hP hD hl =>  lv_icmp_le hc.1 hc.2.1 hd ht (fun h2 => absurd h2 h) (fun h => k2 h X hX p e s m args below meth c H locs ls hc hS hP hD hl)
theorem qs_if_ne {off : Int} {tgt pc1 : Nat} {x : Int32} (hd : decode mm.2.1 pc = .ok (.ifCond .ne off, 3)) (ht : (pc : Int) + off = (tgt : Int)) (hp : pc + 3 = pc1) (k1 : x = 0 → qs_VO l E A Sh mm dp rv pc1 lv st D T1) (k2 : ¬ x = 0 → qs_VO l E A Sh mm dp rv tgt lv st D T2) : qs_VO l E A Sh mm dp rv pc lv (.int x :: st) D (if x = 0 then T1 else T2) := by
  subst hp
  refine qs_ite (fun h => ?_) (fun h => ?_)
  · exact fun X hX p e s m args below meth c H locs ls hc hS hP hD hl =>  lv_if_ne hc.1 hc.2.1 hd ht (fun h2 => absurd h h2) (fun h => k1 h X hX p e s m args below meth c H locs ls hc hS hP hD hl)
  · exact fun X hX p e s m args below meth c H locs ls hc hS hP hD hl =>  lv_if_ne hc.1 hc.2.1 hd ht (fun h => k2 h X hX p e s m args below meth c H locs ls hc hS hP hD hl) (fun h2 => absurd h2 h)
theorem qs_icmp_ne {off : Int} {tgt pc1 : Nat} {x y : Int32} (hd : decode mm.2.1 pc = .ok (.if_icmp .ne off, 3)) (ht : (pc : Int) + off = (tgt : Int)) (hp : pc + 3 = pc1) (k1 : x = y → qs_VO l E A Sh mm dp rv pc1 lv st D T1) (k2 : ¬ x = y → qs_VO l E A Sh mm dp rv tgt lv st D T2) : qs_VO l E A Sh mm dp rv pc lv (.int y :: .int x :: st) D (if x = y then T1 else T2) := by
  subst hp
  refine qs_ite (fun h => ?_) (fun h => ?_)
  · exact fun X hX p e s m args below meth c H locs ls hc hS hP hD hl =>  lv_icmp_ne hc.1 hc.2.1 hd ht (fun h2 => absurd h h2) (fun h => k1 h X hX p e s m args below meth c H locs ls hc hS hP hD hl)
  · exact fun X hX p e s m args below meth c H locs ls hc hS hP hD hl =>  lv_icmp_ne hc.1 hc.2.1 hd ht (fun h => k2 h X hX p e s m args below meth c H locs ls hc hS hP hD hl) (fun h2 => absurd h2 h)
theorem qs_tsIn {dflt lo hi : Int} {offs : Array Int} {len tgt : Nat} {x : Int32} {off : Int} (hd : decode mm.2.1 pc = .ok (.tableswitch dflt lo hi offs, len)) (h1 : ¬ x.toInt < lo) (h2 : ¬ hi < x.toInt) (ho : offs[(x.toInt - lo).toNat]? = some off) (ht : (pc : Int) + off = (tgt : Int)) (k : qs_VO l E A Sh mm dp rv tgt lv st D T) : qs_VO l E A Sh mm dp rv pc lv (.int x :: st) D T := fun X hX p e s m args below meth c H locs ls hc hS hP hD hl =>  lv_tableIn hc.1 hc.2.1 hd h1 h2 ho ht (k X hX p e s m args below meth c H locs ls hc hS hP hD hl)
theorem qs_tsOut {dflt lo hi : Int} {offs : Array Int} {len tgt : Nat} {x : Int32} (hd : decode mm.2.1 pc = .ok (.tableswitch dflt lo hi offs, len)) (h : x.toInt < lo ∨ hi < x.toInt) (ht : (pc : Int) + dflt = (tgt : Int)) (k : qs_VO l E A Sh mm dp rv tgt lv st D T) : qs_VO l E A Sh mm dp rv pc lv (.int x :: st) D T := fun X hX p e s m args below meth c H locs ls hc hS hP hD hl =>  lv_tableOut hc.1 hc.2.1 hd h ht (k X hX p e s m args below meth c H locs ls hc hS hP hD hl)
theorem qs_goto {off : Int} {tgt : Nat} (hd : decode mm.2.1 pc = .ok (.goto off, 3)) (ht : (pc : Int) + off = (tgt : Int)) (k : qs_VO l E A Sh mm dp rv tgt lv st D T) : qs_VO l E A Sh mm dp rv pc lv st D T := fun X hX p e s m args below meth c H locs ls hc hS hP hD hl =>  lv_goto hc.1 hc.2.1 hd ht (k X hX p e s m args below meth c H locs ls hc hS hP hD hl)
theorem qs_getI {idx pc1 i ci k0 : Nat} {tm : List (Option (Option Nat))} {ft : FieldType} (hf : qs_FF mm.1 idx ci k0 ft) (he : Sh[i]? = some (.inl (ci, tm))) (hv : tm[k0]? = some none) (hd : decode mm.2.1 pc = .ok (.getfield idx, 3)) (hp : pc + 3 = pc1) (k : qs_VO l E A Sh mm dp rv pc1 lv (.int (D i k0) :: st) D T) : qs_VO l E A Sh mm dp rv pc lv (.ref i :: st) D T := by
  subst hp
  obtain ⟨C, Tt, N, ty, ⟨h1, h2, h3, h4⟩, hk, hty, hC, hlink⟩ := hf
  intro X hX p e s m args below meth c H locs ls hc hS hP hD hl
  have hfs : (tm.mapIdx (qs_fld E (D i)))[k0]? = some (.int (D i k0)) := by rw [List.getElem?_mapIdx, hv]; rfl
  rcases hlink with hlink | ⟨host, hlink⟩
  · exact va_get (D := E.1) (ci := ci) (v := .int (D i k0)) (C := C) (T := Tt) (N := N) (ref := C) hc.1 hc.2.1 hc.2.2.2.2.2.1 h2 hc.2.2.2.2.1 hc.2.2.2.2.2.2.2.1 hP i (qs_ren_at he) h1 k0 hk (hc.2.2.2.2.2.1 _ hlink) (fun x hx => by rw [← hC]; exact hx) hfs hd (k X hX p e s m args below meth c H locs ls hc hS hP hD hl)
  · exact va_getN (D := E.1) (ci := ci) (v := .int (D i k0)) (C := C) (T := Tt) (N := N) (ref := C) hc.1 hc.2.1 hc.2.2.2.2.2.1 h2 hc.2.2.2.2.1 hc.2.2.2.2.2.2.2.1 hP i (qs_ren_at he) h1 k0 hk (va_Nw.use rfl (hc.2.2.2.2.2.2.2.2.1 _ hlink)) (fun x hx => by rw [← hC]; exact hx) hfs hd (k X hX p e s m args below meth c H locs ls hc hS hP hD hl)
theorem qs_getR {idx pc1 i j ci k0 : Nat} {tm : List (Option (Option Nat))} {ft : FieldType} (hf : qs_FF mm.1 idx ci k0 ft) (he : Sh[i]? = some (.inl (ci, tm))) (hv : tm[k0]? = some (some (some j))) (hd : decode mm.2.1 pc = .ok (.getfield idx, 3)) (hp : pc + 3 = pc1) (k : qs_VO l E A Sh mm dp rv pc1 lv (.ref j :: st) D T) : qs_VO l E A Sh mm dp rv pc lv (.ref i :: st) D T := by
  subst hp
  obtain ⟨C, Tt, N, ty, ⟨h1, h2, h3, h4⟩, hk, hty, hC, hlink⟩ := hf
  intro X hX p e s m args below meth c H locs ls hc hS hP hD hl
  have hfs : (tm.mapIdx (qs_fld E (D i)))[k0]? = some (.ref (E.2.2.1 j)) := by rw [List.getElem?_mapIdx, hv]; rfl
  rcases hlink with hlink | ⟨host, hlink⟩
  · exact va_get (D := E.1) (ci := ci) (v := .ref (E.2.2.1 j)) (C := C) (T := Tt) (N := N) (ref := C) hc.1 hc.2.1 hc.2.2.2.2.2.1 h2 hc.2.2.2.2.1 hc.2.2.2.2.2.2.2.1 hP i (qs_ren_at he) h1 k0 hk (hc.2.2.2.2.2.1 _ hlink) (fun x hx => by rw [← hC]; exact hx) hfs hd (k X hX p e s m args below meth c H locs ls hc hS hP hD hl)
  · exact va_getN (D := E.1) (ci := ci) (v := .ref (E.2.2.1 j)) (C := C) (T := Tt) (N := N) (ref := C) hc.1 hc.2.1 hc.2.2.2.2.2.1 h2 hc.2.2.2.2.1 hc.2.2.2.2.2.2.2.1 hP i (qs_ren_at he) h1 k0 hk (va_Nw.use rfl (hc.2.2.2.2.2.2.2.2.1 _ hlink)) (fun x hx => by rw [← hC]; exact hx) hfs hd (k X hX p e s m args below meth c H locs ls hc hS hP hD hl)
theorem qs_ren_put {i ci k0 : Nat} {tm : List (Option (Option Nat))} {x : Int32} (he : Sh[i]? = some (.inl (ci, tm))) (hv : tm[k0]? = some none) : qs_ren E Sh (qs_u D i k0 x) = (qs_ren E Sh D).set i (E.2.2.1 i, .inr (ci, (tm.mapIdx (qs_fld E (D i))).set k0 (.int x))) := by
  rw [qs_u_w, qs_ren_w he]
  show _ = (qs_ren E Sh D).set i (E.2.2.1 i, _)
  rw [← qs_fld_set hv]
  rfl
theorem qs_putG {idx i ci k0 : Nat} {tm : List (Option (Option Nat))} {ft : FieldType} {x : Int32} {F : qs_D → Option (ρ × qs_D)} (hn : narrow ft (.int x) = .int x) (hfit : fits ft (.int x) = true) (hf : qs_FW mm.1 idx ci k0 ft) (he : Sh[i]? = some (.inl (ci, tm))) (hv : tm[k0]? = some none) (hd : decode mm.2.1 pc = .ok (.putfield idx, 3)) (k : ∀ D1 : qs_D, qs_VO l E A Sh mm dp rv (pc + 3) lv st D1 (F D1)) : qs_VO l E A Sh mm dp rv pc lv (.int x :: .ref i :: st) D (qs_let (qs_u D i k0 x) F) := by
  obtain ⟨C, Tt, N, ty, ⟨h1, h2, h3, h4⟩, hk, hty, hC, hfin, hlink⟩ := hf
  intro X hX p e s m args below meth c H locs ls hc hS hP hD hl
  have hlen : k0 < (tm.mapIdx (qs_fld E (D i))).length := by rw [List.length_mapIdx]; exact (List.getElem?_eq_some_iff.mp hv).1
  rcases hlink with hlink | ⟨host, hlink⟩
  · exact va_put (D := E.1) (ci := ci) (v := .int x) (ty := ft) (C := C) (T := Tt) (N := N) (ref := C) hc.1 hc.2.1 hc.2.2.2.2.2.1 h2 ty h3 h4 hc.2.2.2.2.1 hc.2.2.2.2.2.2.2.1 hP hD hS i (qs_ren_at he) h1 k0 hk (hc.2.2.2.2.2.1 _ hlink) (fun x hx => by rw [← hC]; exact hx) hfin (by rw [h3 k0 hk, hty]) hn hfit hlen hd (fun H1 locs1 hP1 hD1 hS1 => k _ X hX p e s m args below meth c H1 locs1 ls hc hS1 (by rw [qs_ren_put he hv]; exact hP1) (by rw [qs_ren_put he hv]; exact hD1) hl)
  · exact va_putN (D := E.1) (ci := ci) (v := .int x) (ty := ft) (C := C) (T := Tt) (N := N) (ref := C) hc.1 hc.2.1 hc.2.2.2.2.2.1 h2 ty h3 h4 hc.2.2.2.2.1 hc.2.2.2.2.2.2.2.1 hP hD hS i (qs_ren_at he) h1 k0 hk (va_Nw.use rfl (hc.2.2.2.2.2.2.2.2.1 _ hlink)) (fun x hx => by rw [← hC]; exact hx) hfin (by rw [h3 k0 hk, hty]) hn hfit hlen hd (fun H1 locs1 hP1 hD1 hS1 => k _ X hX p e s m args below meth c H1 locs1 ls hc hS1 (by rw [qs_ren_put he hv]; exact hP1) (by rw [qs_ren_put he hv]; exact hD1) hl)
theorem qs_putI {idx pc1 i ci k0 : Nat} {tm : List (Option (Option Nat))} {x : Int32} {F : qs_D → Option (ρ × qs_D)} (hf : qs_FW mm.1 idx ci k0 .int) (he : Sh[i]? = some (.inl (ci, tm))) (hv : tm[k0]? = some none) (hd : decode mm.2.1 pc = .ok (.putfield idx, 3)) (hp : pc + 3 = pc1) (k : ∀ D1 : qs_D, qs_VO l E A Sh mm dp rv pc1 lv st D1 (F D1)) : qs_VO l E A Sh mm dp rv pc lv (.int x :: .ref i :: st) D (qs_let (qs_u D i k0 x) F) := by
  subst hp
  exact qs_putG rfl rfl hf he hv hd k
theorem qs_putZ {idx pc1 i ci k0 : Nat} {tm : List (Option (Option Nat))} {x : Int32} {F : qs_D → Option (ρ × qs_D)} (hz : x = 0 ∨ x = 1) (hf : qs_FW mm.1 idx ci k0 .boolean) (he : Sh[i]? = some (.inl (ci, tm))) (hv : tm[k0]? = some none) (hd : decode mm.2.1 pc = .ok (.putfield idx, 3)) (hp : pc + 3 = pc1) (k : ∀ D1 : qs_D, qs_VO l E A Sh mm dp rv pc1 lv st D1 (F D1)) : qs_VO l E A Sh mm dp rv pc lv (.int x :: .ref i :: st) D (qs_let (qs_u D i k0 x) F) := by
  subst hp
  rcases hz with rfl | rfl
  · exact qs_putG (by decide) (by decide) hf he hv hd k
  · exact qs_putG (by decide) (by decide) hf he hv hd k
theorem qs_iald {pc1 i n : Nat} {f : Nat → Option Nat} {j : Int32} (he : Sh[i]? = some (.inr (0, n, f))) (hn : n < 2 ^ 31) (hd : decode mm.2.1 pc = .ok (.iaload, 1)) (hp : pc + 1 = pc1) (k : 0 ≤ j ∧ j < Int32.ofNat n → qs_VO l E A Sh mm dp rv pc1 lv (.int (D i j.toNatClampNeg) :: st) D T) : qs_VO l E A Sh mm dp rv pc lv (.int j :: .ref i :: st) D (qs_g j n T) := by
  subst hp
  unfold qs_g
  refine qs_ite (fun h => ?_) (fun _ => qs_none)
  exact fun X hX p e s m args below meth c H locs ls hc hS hP hD hl => va_iald (f := D i) (n := n) hc.1 hc.2.1 hc.2.2.2.2.2.2.2.1 hP i 0 (qs_ren_at he) rfl (qs_in hn h) hd (k h X hX p e s m args below meth c H locs ls hc hS hP hD hl)
theorem qs_bald {pc1 i n : Nat} {f : Nat → Option Nat} {j : Int32} (he : Sh[i]? = some (.inr (1, n, f))) (hn : n < 2 ^ 31) (hd : decode mm.2.1 pc = .ok (.baload, 1)) (hp : pc + 1 = pc1) (k : 0 ≤ j ∧ j < Int32.ofNat n → qs_VO l E A Sh mm dp rv pc1 lv (.int (D i j.toNatClampNeg) :: st) D T) : qs_VO l E A Sh mm dp rv pc lv (.int j :: .ref i :: st) D (qs_g j n T) := by
  subst hp
  unfold qs_g
  refine qs_ite (fun h => ?_) (fun _ => qs_none)
  exact fun X hX p e s m args below meth c H locs ls hc hS hP hD hl => va_bald (f := D i) (n := n) hc.1 hc.2.1 hc.2.2.2.2.2.2.2.1 hP i 1 (qs_ren_at he) rfl (qs_in hn h) hd (k h X hX p e s m args below meth c H locs ls hc hS hP hD hl)
theorem qs_iast {pc1 i n : Nat} {f : Nat → Option Nat} {j x : Int32} {F : qs_D → Option (ρ × qs_D)} (he : Sh[i]? = some (.inr (0, n, f))) (hn : n < 2 ^ 31) (hd : decode mm.2.1 pc = .ok (.iastore, 1)) (hp : pc + 1 = pc1) (k : ∀ D1 : qs_D, qs_VO l E A Sh mm dp rv pc1 lv st D1 (F D1)) : qs_VO l E A Sh mm dp rv pc lv (.int x :: .int j :: .ref i :: st) D (qs_g j n (qs_let (qs_u D i j.toNatClampNeg x) F)) := by
  subst hp
  unfold qs_g
  refine qs_ite (fun h => ?_) (fun _ => qs_none)
  exact fun X hX p e s m args below meth c H locs ls hc hS hP hD hl => va_iast (f := D i) (n := n) hc.1 hc.2.1 hc.2.2.2.2.2.2.2.1 hP hD hS i 0 (qs_ren_at he) rfl (qs_in hn h) hd (fun H1 locs1 hP1 hD1 hS1 => k _ X hX p e s m args below meth c H1 locs1 ls hc hS1 (by rw [qs_u_w, qs_ren_w he]; exact hP1) (by rw [qs_u_w, qs_ren_w he]; exact hD1) hl)
theorem qs_bast {pc1 i n : Nat} {f : Nat → Option Nat} {j x : Int32} {F : qs_D → Option (ρ × qs_D)} (he : Sh[i]? = some (.inr (1, n, f))) (hn : n < 2 ^ 31) (hd : decode mm.2.1 pc = .ok (.bastore, 1)) (hp : pc + 1 = pc1) (k : ∀ D1 : qs_D, qs_VO l E A Sh mm dp rv pc1 lv st D1 (F D1)) : qs_VO l E A Sh mm dp rv pc lv (.int x :: .int j :: .ref i :: st) D (qs_g j n (qs_let (qs_u D i j.toNatClampNeg x.toInt8.toInt32) F)) := by
  subst hp
  unfold qs_g
  refine qs_ite (fun h => ?_) (fun _ => qs_none)
  exact fun X hX p e s m args below meth c H locs ls hc hS hP hD hl => va_bast (f := D i) (n := n) hc.1 hc.2.1 hc.2.2.2.2.2.2.2.1 hP hD hS i 1 (qs_ren_at he) rfl (qs_in hn h) hd (fun H1 locs1 hP1 hD1 hS1 => by
    rw [vp_nar_byte] at hP1 hD1
    exact k _ X hX p e s m args below meth c H1 locs1 ls hc hS1 (by rw [qs_u_w, qs_ren_w he]; exact hP1) (by rw [qs_u_w, qs_ren_w he]; exact hD1) hl)
theorem qs_aald {pc1 i kd n : Nat} {C : String} {g : Nat → Nat} {j : Int32} (ht : (qs_tys E)[kd]? = some (E.2.1 kd, .object C)) (hkd : ¬ kd ≤ 1) (he : Sh[i]? = some (.inr (kd, n, fun j => some (g j)))) (hn : n < 2 ^ 31) (hd : decode mm.2.1 pc = .ok (.aaload, 1)) (hp : pc + 1 = pc1) (k : 0 ≤ j ∧ j < Int32.ofNat n → qs_VO l E A Sh mm dp rv pc1 lv (.ref (g j.toNatClampNeg) :: st) D T) : qs_VO l E A Sh mm dp rv pc lv (.int j :: .ref i :: st) D (qs_g j n T) := by
  subst hp
  unfold qs_g
  refine qs_ite (fun h => ?_) (fun _ => qs_none)
  intro X hX p e s m args below meth c H locs ls hc hS hP hD hl
  have hh := qs_ren_at (E := E) (D := D) he
  rw [show qs_cell E (.inr (kd, n, fun j => some (g j))) (D i) = .inl (E.2.1 kd, n, .inr (.inr (.inr (.inr (fun j => (some (g j)).map E.2.2.1))))) from by simp [qs_cell, hkd]] at hh
  exact va_aldq hc.1 hc.2.1 hc.2.2.2.2.2.2.2.1 hP i kd hh ht (qs_in hn h) hd (k h X hX p e s m args below meth c H locs ls hc hS hP hD hl)
theorem qs_alen {pc1 i n : Nat} {f : Nat → Option Nat} (he : Sh[i]? = some (.inr (0, n, f))) (hd : decode mm.2.1 pc = .ok (.arraylength, 1)) (hp : pc + 1 = pc1) (k : qs_VO l E A Sh mm dp rv pc1 lv (.int (Int32.ofNat n) :: st) D T) : qs_VO l E A Sh mm dp rv pc lv (.ref i :: st) D T := by
  subst hp
  exact fun X hX p e s m args below meth c H locs ls hc hS hP hD hl => va_alen (x := (n, .inl (D i))) (ty := .int) hc.1 hc.2.1 hc.2.2.2.2.2.2.2.1 hP i 0 (qs_ren_at he) rfl rfl hd (k X hX p e s m args below meth c H locs ls hc hS hP hD hl)
theorem qs_gets {idx pc1 t : Nat} {C n : String} {vs : List Int32} (hx : qs_tabs[t]? = some (C, n, vs)) (hw : Cond.fieldLink mm.1 idx C n "[I" ∈ qs_gT) (hd : decode mm.2.1 pc = .ok (.getstatic idx, 3)) (hp : pc + 3 = pc1) (k : qs_VO l E A Sh mm dp rv pc1 lv (.ref (2000 + t) :: st) D T) : qs_VO l E A Sh mm dp rv pc lv st D T := by
  subst hp
  exact fun X hX p e s m args below meth c H locs ls hc hS hP hD hl => va_gets hc.1 hc.2.1 (hc.2.2.2.2.2.2.2.2.2.1 t _ hx).1 hS hc.2.2.2.2.1 (hc.2.2.2.2.2.1 _ hw) (fun x h => h) hd (k X hX p e s m args below meth c H locs ls hc hS hP hD hl)
theorem qs_ialdT {pc1 t : Nat} {C n : String} {vs : List Int32} {j : Int32} (hx : qs_tabs[t]? = some (C, n, vs)) (hn : vs.length < 2 ^ 31) (hd : decode mm.2.1 pc = .ok (.iaload, 1)) (hp : pc + 1 = pc1) (k : 0 ≤ j ∧ j < Int32.ofNat vs.length → qs_VO l E A Sh mm dp rv pc1 lv (.int (vs.getD j.toNatClampNeg 0) :: st) D T) : qs_VO l E A Sh mm dp rv pc lv (.int j :: .ref (2000 + t) :: st) D (qs_g j vs.length T) := by
  subst hp
  unfold qs_g
  refine qs_ite (fun h => ?_) (fun _ => qs_none)
  exact fun X hX p e s m args below meth c H locs ls hc hS hP hD hl => va_ti hc.1 hc.2.1 (hc.2.2.2.2.2.2.2.2.2.1 t _ hx).2 hS (qs_in hn h) rfl hd (k h X hX p e s m args below meth c H locs ls hc hS hP hD hl)
theorem qs_copy {idx pc1 a b n0 n1 : Nat} {f g : Nat → Option Nat} {sp q n : Int32} {F : qs_D → Option (ρ × qs_D)} (hw : Cond.methodLink mm.1 idx arraycopyName ∈ qs_gT ∧ Cond.native arraycopyName ∈ qs_gT ∧ Cond.static arraycopyName ∈ qs_gT ∧ Cond.initialized "java/lang/System" ∈ qs_gT) (ha : Sh[a]? = some (.inr (0, n0, f))) (hb : Sh[b]? = some (.inr (0, n1, g))) (hr : 1 ≤ dp) (hz : (st.map fun v => v.category).sum + (nativeFrameWords "java/lang/System" "arraycopy" 5 + 11) ≤ 39 * dp) (hd : decode mm.2.1 pc = .ok (.invokestatic idx, 3)) (hp : pc + 3 = pc1) (k : ∀ D1 : qs_D, qs_VO l E A Sh mm dp rv pc1 lv st D1 (F D1)) : qs_VO l E A Sh mm dp rv pc lv (.int n :: .int q :: .ref b :: .int sp :: .ref a :: st) D (qs_gcp sp q n n0 n1 (qs_let (qs_w D b (va_cpy (D a) (D b) sp.toNatClampNeg q.toNatClampNeg n.toNatClampNeg)) F)) := by
  subst hp
  unfold qs_gcp
  refine qs_ite (fun h => ?_) (fun _ => qs_none)
  exact fun X hX p e s m args below meth c H locs ls hc hS hP hD hl => va_copyi (f := D a) (g := D b) (ty := .int) hc.1 hc.2.1 (hc.2.2.2.1.trans hl.1.symm) hc.2.2.2.2.1 (hc.2.2.2.2.2.1 _ hw.1) (hc.2.2.2.2.2.1 _ hw.2.1) (hc.2.2.2.2.2.1 _ hw.2.2.1) (hc.2.2.2.2.2.1 _ hw.2.2.2) hc.2.2.2.2.2.2.2.1 hP hD hS a b 0 0 (qs_ren_at ha) (qs_ren_at hb) rfl rfl rfl h.1 h.2.1 h.2.2.1 h.2.2.2.1 h.2.2.2.2 (fun _ _ => rfl) hr (by rw [qs_sum]; exact hz) hd (fun H1 locs1 hP1 hD1 hS1 => k _ X hX p e s m args below meth c H1 locs1 ls hc hS1 (by rw [qs_ren_w hb]; exact hP1) (by rw [qs_ren_w hb]; exact hD1) hl)
/-! returns -/
theorem qs_iret {x : Int32} (hr : mm.2.2.2 = some .int) (hd : decode mm.2.1 pc = .ok (.ireturn, 1)) : qs_VO l E A Sh mm dp qs_ri pc lv [.int x] D (some (x, D)) := by
  intro X hX p e s m args below meth c H locs ls hc hS hP hD hl
  cases hX
  exact W.iret hc.1 hc.2.1 (hc.2.2.1.trans hr) (fun t ht hW => ⟨⟨rfl, by rw [ht]; exact hP, hD⟩, hS.F ht⟩) hS.2.2 hd (hlocks := hc.2.2.2.2.2.2.1)
theorem qs_zret {x : Int32} (hz : x = 0 ∨ x = 1) (hr : mm.2.2.2 = some .boolean) (hd : decode mm.2.1 pc = .ok (.ireturn, 1)) : qs_VO l E A Sh mm dp qs_ri pc lv [.int x] D (some (x, D)) := by
  intro X hX p e s m args below meth c H locs ls hc hS hP hD hl
  cases hX
  exact W.zret hc.1 hc.2.1 (hc.2.2.1.trans hr) (by rcases hz with rfl | rfl <;> decide) (fun t ht hW => ⟨⟨rfl, by rw [ht]; exact hP, hD⟩, hS.F ht⟩) hS.2.2 hd (hlocks := hc.2.2.2.2.2.2.1)
theorem qs_zretB {x : Int32} (hr : mm.2.2.2 = some .boolean) (hd : decode mm.2.1 pc = .ok (.ireturn, 1)) : qs_VO l E A Sh mm dp qs_ri pc lv [.int x] D (qs_gb x (some (x, D))) := by
  unfold qs_gb
  exact qs_ite (fun h => qs_zret h hr hd) (fun _ => qs_none)
theorem qs_lret {x : Int64} (hr : mm.2.2.2 = some .long) (hd : decode mm.2.1 pc = .ok (.lreturn, 1)) : qs_VO l E A Sh mm dp qs_rl pc lv [.long x] D (some (x, D)) := by
  intro X hX p e s m args below meth c H locs ls hc hS hP hD hl
  cases hX
  exact W.lret hc.1 hc.2.1 (hc.2.2.1.trans hr) (fun t ht hW => ⟨⟨rfl, by rw [ht]; exact hP, hD⟩, hS.F ht⟩) hS.2.2 hd (hlocks := hc.2.2.2.2.2.2.1)
theorem qs_aret {x : Nat} {C : String} (hr : mm.2.2.2 = some (.object C)) (hd : decode mm.2.1 pc = .ok (.areturn, 1)) : qs_VO l E A Sh mm dp qs_rr pc lv [.ref x] D (some (x, D)) := by
  intro X hX p e s m args below meth c H locs ls hc hS hP hD hl
  cases hX
  exact W.aret (v := .ref (E.2.2.1 x)) hc.1 hc.2.1 (hc.2.2.1.trans hr) (Or.inl ⟨C, rfl⟩) (Or.inr ⟨_, rfl⟩) (fun t ht hW => ⟨⟨rfl, by rw [ht]; exact hP, hD⟩, hS.F ht⟩) hS.2.2 hd (hlocks := hc.2.2.2.2.2.2.1)
theorem qs_vret (hr : mm.2.2.2 = none) (hd : decode mm.2.1 pc = .ok (.return_, 1)) : qs_VO l E A Sh mm dp qs_rv pc lv [] D (some ((), D)) := by
  intro X hX p e s m args below meth c H locs ls hc hS hP hD hl
  cases hX
  exact W.vret hc.1 hc.2.1 (hc.2.2.1.trans hr) (fun t ht hW => ⟨⟨rfl, by rw [ht]; exact hP, hD⟩, hS.F ht⟩) hS.2.2 hd (hlocks := hc.2.2.2.2.2.2.1)
/-! the entry, and calls -/
theorem qs_enter {y : MethodName} {av : List Value} {X : ρ × qs_D} (hpn : plainName y.cls = true) (hown : mm.1 = y.cls) (hsz : (lg_sl (av.map (qs_tr E))).length ≤ mm.2.2.1) (k : qs_VO l E A Sh mm dp rv 0 (lv_args 0 av) [] D T) (hX : T = some X) : qs_Ctr l E A Sh y mm dp rv av D X := by
  refine Met.ofW (cc := mm.2.1) (maxL := mm.2.2.1) (ret := mm.2.2.2) hpn rfl ?_
  intro p e s m args below meth c s₁ B hml hv
  obtain ⟨rfl, hBg, hP, hD⟩ := hv
  have hts := atoms_spec (ws := qs_ws y mm) B.pre
  have hl := lv_entry (av.map (qs_tr E)) (n := mm.2.2.1) hsz
  rw [lg_entry_eq]
  rw [qs_args] at hl
  exact k X hX p e s m _ below meth c s.heap [] _ ⟨B.exec, B.bytes, B.returns, hml, by rw [hown]; exact findClass_of_methodNamed B.named, fun w hw => hts w (List.mem_cons_of_mem _ hw), B.notSynchronized, hBg⟩ va_S.rf hP hD hl
theorem qs_after {σ : Type} {p : Program} {e : Env} {R : Room} {s : State} {m : MethodId} {args : Array Value} {below : List Frame} {meth : Method} {c : Code} {H : Heap} {locs : List Loc} {Q : State → Prop} {ls : Array Slot} {rest st0 : List Value} {a : Array Value} {rj : σ → Option Value} {Y : σ × qs_D} (hr : va_Run p l e R s m args below meth c H locs 0 0 0 0 (F0 m pc ls st0) rest (qs_Q E A Sh rj Y a) A) (hS : va_S A s.heap H locs)
    (kk : ∀ (H1 : Heap) (locs1 : List Loc), va_S A s.heap H1 locs1 → va_P E.1 vwCl (qs_ren E Sh Y.2) H1 → va_D A (qs_ren E Sh Y.2) → W p l e R s m args below meth c H1 locs1 0 0 Q (F0 m (pc + 3) ls (((rj Y.1).map (qs_tr E)).toList ++ rest))) : W p l e R s m args below meth c H locs 0 0 Q (F0 m pc ls st0) := by
  intro T hT X
  obtain ⟨v, st₀, t, T', L, h0, X', hL, e1, e2, ⟨⟨hv, hp, hd⟩, hz, hk⟩, st⟩ := hr T hT X
  cases hv
  rw [h0] at hz hk
  obtain ⟨t2, a1, b1⟩ := kk T'.heap (locs ++ L)
    ⟨Nat.le_trans hS.1 (by rw [e1]; exact hz), fun q h1 h2 => by rw [e1, hk q (Nat.lt_of_lt_of_le h1 hS.1) h2]; exact hS.2.1 q h1 h2, fun q hq => by
      rcases List.mem_append.mp hq with h | h
      · exact hS.2.2 q h
      · exact hL q h⟩ (by rw [e1]; exact hp) hd T' rfl X'
  exact ⟨t2, st t2 a1, b1⟩
theorem qs_blind {av : List Value} : FrameBlind (va_Pc av (qs_W E A Sh D)) := fun a U g mk q => ⟨q.1, q.2.1.blind, q.2.2⟩
theorem qs_callV {σ : Type} {y : MethodName} {mj : qs_M} {dj n idx i ci : Nat} {rj : σ → Option Value} {As stk : List Value} {T0 : Option (σ × qs_D)} {F : σ → qs_D → Option (ρ × qs_D)} {tm : List (Option (Option Nat))} {Tt : u_T} {N : Nat} (hf : qs_CF mm.1 idx y mj n false) (hdp : dj + 1 ≤ dp) (he : Sh[i]? = some (.inl (ci, tm))) (hci : vwCl[ci]? = some (y.cls, Tt, N)) (hM : ∀ Y, T0 = some Y → qs_Ctr l E A Sh y mj dj rj (.ref i :: As) D Y) (hn : As.length = n) (hw : (st.map fun v => v.category).sum ≤ 8) (hd : decode mm.2.1 pc = .ok (.invokevirtual idx, 3)) (hst : stk = As.reverse ++ .ref i :: st)
    (k : ∀ (r : σ) (D1 : qs_D), T0 = some (r, D1) → qs_VO l E A Sh mm dp rv (pc + 3) lv ((rj r).toList ++ st) D1 (F r D1)) : qs_VO l E A Sh mm dp rv pc lv stk D (qs_bind T0 F) := by
  cases hT0 : T0 with
  | none => exact qs_none
  | some Y =>
    obtain ⟨r, D1⟩ := Y
    intro X hX p e s m args below meth c H locs ls hc hS hP hD hl
    obtain ⟨g1, g2, g3, g4, g5, g6⟩ := hf
    obtain ⟨g6, g7⟩ : Cond.instanceMethod y ∈ qs_gT ∧ Cond.selects y.cls y y ∈ qs_gT := g6
    have hts := hc.2.2.2.2.2.1
    have hM' := hM _ hT0
    have hstack : stk.map (qs_tr E) = (As.map (qs_tr E)).reverse ++ Value.ref (E.2.2.1 i) :: st.map (qs_tr E) := by rw [hst, List.map_append, List.map_reverse]; rfl
    have hpre : PreV s H y.cls (E.2.2.1 i) (va_Pc ((Value.ref i :: As).map (qs_tr E)) (qs_W E A Sh D)) (As.map (qs_tr E)) := ⟨qs_blind, va_recv hc.2.2.2.2.2.2.2.1 hP hci (qs_ren_at he), fun U hU hW => ⟨rfl, hc.2.2.2.2.2.2.2.go hS hU hW, by rw [hU]; exact hP, hD⟩⟩
    have hroom : (qs_rm dj).frames + 1 ≤ (qs_rm dp).frames ∧ 8 + (mj.2.2.1 + 11) + (qs_rm dj).locals ≤ (qs_rm dp).locals := ⟨hdp, by show 8 + (mj.2.2.1 + 11) + 39 * dj ≤ 39 * dp; omega⟩
    have hrun : va_Run p l e (qs_rm dp) s m args below meth c H locs 0 0 0 0 (F0 m pc ls (stk.map (qs_tr E))) (st.map (qs_tr E)) (qs_Q E A Sh rj (r, D1) (Value.ref (E.2.2.1 i) :: As.map (qs_tr E)).toArray) A := by
      rcases g5 with g5 | ⟨host, g5⟩
      · exact va_runV (As := As.map (qs_tr E)) ⟨hc.1, hc.2.1, hc.2.2.2.1, hc.2.2.2.2.1, hts⟩ hM' ⟨callB_of n hts (qs_good g1) rfl rfl rfl (hts _ g2) (hts _ g5) g4 hroom, hts _ g6, hts _ g7⟩ hpre rfl (by rw [List.length_map]; exact hn) hl.1 hstack (lv_room (by rw [qs_sum]; exact hw)) hd ⟨Nat.le_refl _, Nat.le_refl _⟩
      · exact va_runVN (As := As.map (qs_tr E)) ⟨hc.1, hc.2.1, hc.2.2.2.1, hc.2.2.2.2.1, hts⟩ hM' ⟨va_cnB n hts (qs_good g1) rfl rfl rfl (hc.2.2.2.2.2.2.2.2.1 _ g5) (hts _ g2) g4 hroom, hts _ g6, hts _ g7⟩ hpre rfl (by rw [List.length_map]; exact hn) hl.1 hstack (lv_room (by rw [qs_sum]; exact hw)) hd ⟨Nat.le_refl _, Nat.le_refl _⟩
    refine qs_after hrun hS (fun H1 locs1 hS1 hP1 hD1 => ?_)
    have hk := k r D1 hT0 X hX p e s m args below meth c H1 locs1 ls hc hS1 hP1 hD1 hl
    have hee : ((rj r).toList ++ st).map (qs_tr E) = ((rj r).map (qs_tr E)).toList ++ st.map (qs_tr E) := by cases rj r <;> simp
    rw [hee] at hk
    exact hk
theorem qs_callS {σ : Type} {y : MethodName} {mj : qs_M} {dj n idx : Nat} {rj : σ → Option Value} {As stk : List Value} {T0 : Option (σ × qs_D)} {F : σ → qs_D → Option (ρ × qs_D)} (hf : qs_CF mm.1 idx y mj n true) (hdp : dj + 1 ≤ dp) (hM : ∀ Y, T0 = some Y → qs_Ctr l E A Sh y mj dj rj As D Y) (hn : As.length = n) (hw : (st.map fun v => v.category).sum ≤ 8) (hd : decode mm.2.1 pc = .ok (.invokestatic idx, 3)) (hst : stk = As.reverse ++ st)
    (k : ∀ (r : σ) (D1 : qs_D), T0 = some (r, D1) → qs_VO l E A Sh mm dp rv (pc + 3) lv ((rj r).toList ++ st) D1 (F r D1)) : qs_VO l E A Sh mm dp rv pc lv stk D (qs_bind T0 F) := by
  cases hT0 : T0 with
  | none => exact qs_none
  | some Y =>
    obtain ⟨r, D1⟩ := Y
    intro X hX p e s m args below meth c H locs ls hc hS hP hD hl
    obtain ⟨g1, g2, g3, g4, g5, g6⟩ := hf
    have g6 : Cond.static y ∈ qs_gT := g6
    have hts := hc.2.2.2.2.2.1
    have hM' := hM _ hT0
    have hstack : stk.map (qs_tr E) = (As.map (qs_tr E)).reverse ++ st.map (qs_tr E) := by rw [hst, List.map_append, List.map_reverse]
    have hpre : PreS s H (va_Pc (As.map (qs_tr E)) (qs_W E A Sh D)) (As.map (qs_tr E)) := ⟨qs_blind, fun U hU hW => ⟨rfl, hc.2.2.2.2.2.2.2.go hS hU hW, by rw [hU]; exact hP, hD⟩⟩
    have hroom : (qs_rm dj).frames + 1 ≤ (qs_rm dp).frames ∧ 8 + (mj.2.2.1 + 11) + (qs_rm dj).locals ≤ (qs_rm dp).locals := ⟨hdp, by show 8 + (mj.2.2.1 + 11) + 39 * dj ≤ 39 * dp; omega⟩
    have hrun : va_Run p l e (qs_rm dp) s m args below meth c H locs 0 0 0 0 (F0 m pc ls (stk.map (qs_tr E))) (st.map (qs_tr E)) (qs_Q E A Sh rj (r, D1) (As.map (qs_tr E)).toArray) A := by
      rcases g5 with g5 | ⟨host, g5⟩
      · exact va_runS (As := As.map (qs_tr E)) ⟨hc.1, hc.2.1, hc.2.2.2.1, hc.2.2.2.2.1, hts⟩ hM' ⟨callB_of n hts (qs_good g1) rfl rfl rfl (hts _ g2) (hts _ g5) g4 hroom, hts _ g6⟩ hpre rfl (by rw [List.length_map]; exact hn) hl.1 hstack (lv_room (by rw [qs_sum]; exact hw)) hd ⟨Nat.le_refl _, Nat.le_refl _⟩
      · exact va_runSN (As := As.map (qs_tr E)) ⟨hc.1, hc.2.1, hc.2.2.2.1, hc.2.2.2.2.1, hts⟩ hM' ⟨va_cnB n hts (qs_good g1) rfl rfl rfl (hc.2.2.2.2.2.2.2.2.1 _ g5) (hts _ g2) g4 hroom, hts _ g6, trivial⟩ hpre rfl (by rw [List.length_map]; exact hn) hl.1 hstack (lv_room (by rw [qs_sum]; exact hw)) hd ⟨Nat.le_refl _, Nat.le_refl _⟩
    refine qs_after hrun hS (fun H1 locs1 hS1 hP1 hD1 => ?_)
    have hk := k r D1 hT0 X hX p e s m args below meth c H1 locs1 ls hc hS1 hP1 hD1 hl
    have hee : ((rj r).toList ++ st).map (qs_tr E) = ((rj r).map (qs_tr E)).toList ++ st.map (qs_tr E) := by cases rj r <;> simp
    rw [hee] at hk
    exact hk

end QS
end
