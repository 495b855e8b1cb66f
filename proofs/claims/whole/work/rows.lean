section
-- ===== PART A: goes FIRST, ahead of the names: the tables' words, and 'selects' of the private methods out of them =====
/-- a private method of a class that the tables say can be made, by its rows of tables_1 -/
def lw_okq (q : MethodName × Nat) : Prop := (q.1.cls ≠ "java/lang/invoke/MethodHandle" ∧ q.1.cls ≠ "java/lang/invoke/VarHandle") ∧ Cond.instantiable q.1.cls q.2 ∈ tables_1 ∧ Cond.privateMethod q.1 ∈ tables_1 ∧ Cond.instanceMethod q.1 ∈ tables_1
theorem lw_p0 : lw_okq (⟨"DumplingPolls$Recipe", "setAsAtFirst", "()V"⟩, 8) := ⟨⟨by decide +kernel, by decide +kernel⟩, List.mem_of_getElem? (i := 60) (by decide +kernel), List.mem_of_getElem? (i := 181) (by decide +kernel), List.mem_of_getElem? (i := 182) (by decide +kernel)⟩
theorem lw_p1 : lw_okq (⟨"DumplingPolls$Stew", "begin", "(LDumplingPolls$Recipe;)V"⟩, 6) := ⟨⟨by decide +kernel, by decide +kernel⟩, List.mem_of_getElem? (i := 107) (by decide +kernel), List.mem_of_getElem? (i := 185) (by decide +kernel), List.mem_of_getElem? (i := 186) (by decide +kernel)⟩
theorem lw_p2 : lw_okq (⟨"DumplingPolls$Reader", "add", "(I)Z"⟩, 10) := ⟨⟨by decide +kernel, by decide +kernel⟩, List.mem_of_getElem? (i := 21) (by decide +kernel), List.mem_of_getElem? (i := 233) (by decide +kernel), List.mem_of_getElem? (i := 234) (by decide +kernel)⟩
theorem lw_p3 : lw_okq (⟨"DumplingPolls$Reader", "readInto", "(LDumplingPolls$Recipe;)I"⟩, 10) := ⟨⟨by decide +kernel, by decide +kernel⟩, List.mem_of_getElem? (i := 21) (by decide +kernel), List.mem_of_getElem? (i := 245) (by decide +kernel), List.mem_of_getElem? (i := 246) (by decide +kernel)⟩
theorem lw_p4 : lw_okq (⟨"DumplingPolls$Reader", "advance", "()V"⟩, 10) := ⟨⟨by decide +kernel, by decide +kernel⟩, List.mem_of_getElem? (i := 21) (by decide +kernel), List.mem_of_getElem? (i := 250) (by decide +kernel), List.mem_of_getElem? (i := 251) (by decide +kernel)⟩
theorem lw_p5 : lw_okq (⟨"DumplingPolls$Reader", "letterAt", "(I)I"⟩, 10) := ⟨⟨by decide +kernel, by decide +kernel⟩, List.mem_of_getElem? (i := 21) (by decide +kernel), List.mem_of_getElem? (i := 254) (by decide +kernel), List.mem_of_getElem? (i := 255) (by decide +kernel)⟩
theorem lw_p6 : lw_okq (⟨"DumplingPolls$Reader", "takeDigits", "()V"⟩, 10) := ⟨⟨by decide +kernel, by decide +kernel⟩, List.mem_of_getElem? (i := 21) (by decide +kernel), List.mem_of_getElem? (i := 261) (by decide +kernel), List.mem_of_getElem? (i := 262) (by decide +kernel)⟩
theorem lw_p7 : lw_okq (⟨"DumplingPolls$Reader", "readItem", "(LDumplingPolls$Recipe;)Z"⟩, 10) := ⟨⟨by decide +kernel, by decide +kernel⟩, List.mem_of_getElem? (i := 21) (by decide +kernel), List.mem_of_getElem? (i := 271) (by decide +kernel), List.mem_of_getElem? (i := 272) (by decide +kernel)⟩
theorem lw_p8 : lw_okq (⟨"DumplingPolls$Reader", "mayBegin", "(ILDumplingPolls$Recipe;)Z"⟩, 10) := ⟨⟨by decide +kernel, by decide +kernel⟩, List.mem_of_getElem? (i := 21) (by decide +kernel), List.mem_of_getElem? (i := 275) (by decide +kernel), List.mem_of_getElem? (i := 276) (by decide +kernel)⟩
theorem lw_p9 : lw_okq (⟨"DumplingPolls$Reader", "tell", "(ILDumplingPolls$Recipe;)V"⟩, 10) := ⟨⟨by decide +kernel, by decide +kernel⟩, List.mem_of_getElem? (i := 21) (by decide +kernel), List.mem_of_getElem? (i := 285) (by decide +kernel), List.mem_of_getElem? (i := 286) (by decide +kernel)⟩
theorem lw_p10 : lw_okq (⟨"DumplingPolls$Recipe", "addDumpling", "([I)V"⟩, 8) := ⟨⟨by decide +kernel, by decide +kernel⟩, List.mem_of_getElem? (i := 60) (by decide +kernel), List.mem_of_getElem? (i := 289) (by decide +kernel), List.mem_of_getElem? (i := 290) (by decide +kernel)⟩
theorem lw_p11 : lw_okq (⟨"DumplingPolls$Recipe", "copy", "(LDumplingPolls$Recipe;)V"⟩, 8) := ⟨⟨by decide +kernel, by decide +kernel⟩, List.mem_of_getElem? (i := 60) (by decide +kernel), List.mem_of_getElem? (i := 293) (by decide +kernel), List.mem_of_getElem? (i := 294) (by decide +kernel)⟩
theorem lw_p12 : lw_okq (⟨"DumplingPolls", "isTold", "(I)Z"⟩, 13) := ⟨⟨by decide +kernel, by decide +kernel⟩, List.mem_of_getElem? (i := 13) (by decide +kernel), List.mem_of_getElem? (i := 304) (by decide +kernel), List.mem_of_getElem? (i := 305) (by decide +kernel)⟩
theorem lw_p13 : lw_okq (⟨"DumplingPolls", "dryOnes", "()I"⟩, 13) := ⟨⟨by decide +kernel, by decide +kernel⟩, List.mem_of_getElem? (i := 13) (by decide +kernel), List.mem_of_getElem? (i := 312) (by decide +kernel), List.mem_of_getElem? (i := 313) (by decide +kernel)⟩
theorem lw_p14 : lw_okq (⟨"DumplingPolls$Recipe", "all", "()I"⟩, 8) := ⟨⟨by decide +kernel, by decide +kernel⟩, List.mem_of_getElem? (i := 60) (by decide +kernel), List.mem_of_getElem? (i := 316) (by decide +kernel), List.mem_of_getElem? (i := 317) (by decide +kernel)⟩
theorem lw_p15 : lw_okq (⟨"DumplingPolls$Stew", "wetOnes", "()I"⟩, 6) := ⟨⟨by decide +kernel, by decide +kernel⟩, List.mem_of_getElem? (i := 107) (by decide +kernel), List.mem_of_getElem? (i := 320) (by decide +kernel), List.mem_of_getElem? (i := 321) (by decide +kernel)⟩
def lw_privs_1 : List (MethodName × Nat) := [(⟨"DumplingPolls$Recipe", "setAsAtFirst", "()V"⟩, 8), (⟨"DumplingPolls$Stew", "begin", "(LDumplingPolls$Recipe;)V"⟩, 6), (⟨"DumplingPolls$Reader", "add", "(I)Z"⟩, 10), (⟨"DumplingPolls$Reader", "readInto", "(LDumplingPolls$Recipe;)I"⟩, 10), (⟨"DumplingPolls$Reader", "advance", "()V"⟩, 10), (⟨"DumplingPolls$Reader", "letterAt", "(I)I"⟩, 10), (⟨"DumplingPolls$Reader", "takeDigits", "()V"⟩, 10), (⟨"DumplingPolls$Reader", "readItem", "(LDumplingPolls$Recipe;)Z"⟩, 10), (⟨"DumplingPolls$Reader", "mayBegin", "(ILDumplingPolls$Recipe;)Z"⟩, 10), (⟨"DumplingPolls$Reader", "tell", "(ILDumplingPolls$Recipe;)V"⟩, 10), (⟨"DumplingPolls$Recipe", "addDumpling", "([I)V"⟩, 8), (⟨"DumplingPolls$Recipe", "copy", "(LDumplingPolls$Recipe;)V"⟩, 8), (⟨"DumplingPolls", "isTold", "(I)Z"⟩, 13), (⟨"DumplingPolls", "dryOnes", "()I"⟩, 13), (⟨"DumplingPolls$Recipe", "all", "()I"⟩, 8), (⟨"DumplingPolls$Stew", "wetOnes", "()I"⟩, 6)]
theorem lw_r1 : ∀ q ∈ lw_privs_1, lw_okq q := List.forall_mem_cons.mpr ⟨lw_p0, List.forall_mem_cons.mpr ⟨lw_p1, List.forall_mem_cons.mpr ⟨lw_p2, List.forall_mem_cons.mpr ⟨lw_p3, List.forall_mem_cons.mpr ⟨lw_p4, List.forall_mem_cons.mpr ⟨lw_p5, List.forall_mem_cons.mpr ⟨lw_p6, List.forall_mem_cons.mpr ⟨lw_p7, List.forall_mem_cons.mpr ⟨lw_p8, List.forall_mem_cons.mpr ⟨lw_p9, List.forall_mem_cons.mpr ⟨lw_p10, List.forall_mem_cons.mpr ⟨lw_p11, List.forall_mem_cons.mpr ⟨lw_p12, List.forall_mem_cons.mpr ⟨lw_p13, List.forall_mem_cons.mpr ⟨lw_p14, List.forall_mem_cons.mpr ⟨lw_p15, fun _ h => absurd h List.not_mem_nil⟩⟩⟩⟩⟩⟩⟩⟩⟩⟩⟩⟩⟩⟩⟩⟩
theorem lw_p16 : lw_okq (⟨"DumplingPolls$Stew", "isDry", "(I)Z"⟩, 6) := ⟨⟨by decide +kernel, by decide +kernel⟩, List.mem_of_getElem? (i := 107) (by decide +kernel), List.mem_of_getElem? (i := 324) (by decide +kernel), List.mem_of_getElem? (i := 325) (by decide +kernel)⟩
theorem lw_p17 : lw_okq (⟨"DumplingPolls$Stew", "upOnes", "()I"⟩, 6) := ⟨⟨by decide +kernel, by decide +kernel⟩, List.mem_of_getElem? (i := 107) (by decide +kernel), List.mem_of_getElem? (i := 328) (by decide +kernel), List.mem_of_getElem? (i := 329) (by decide +kernel)⟩
theorem lw_p18 : lw_okq (⟨"DumplingPolls$Stew", "risenOnes", "()I"⟩, 6) := ⟨⟨by decide +kernel, by decide +kernel⟩, List.mem_of_getElem? (i := 107) (by decide +kernel), List.mem_of_getElem? (i := 332) (by decide +kernel), List.mem_of_getElem? (i := 333) (by decide +kernel)⟩
theorem lw_p19 : lw_okq (⟨"DumplingPolls$Stew", "hasRisen", "(I)Z"⟩, 6) := ⟨⟨by decide +kernel, by decide +kernel⟩, List.mem_of_getElem? (i := 107) (by decide +kernel), List.mem_of_getElem? (i := 336) (by decide +kernel), List.mem_of_getElem? (i := 337) (by decide +kernel)⟩
theorem lw_p20 : lw_okq (⟨"DumplingPolls", "fewestPots", "()I"⟩, 13) := ⟨⟨by decide +kernel, by decide +kernel⟩, List.mem_of_getElem? (i := 13) (by decide +kernel), List.mem_of_getElem? (i := 346) (by decide +kernel), List.mem_of_getElem? (i := 347) (by decide +kernel)⟩
theorem lw_p21 : lw_okq (⟨"DumplingPolls", "fewestPotsOf", "(I)I"⟩, 13) := ⟨⟨by decide +kernel, by decide +kernel⟩, List.mem_of_getElem? (i := 13) (by decide +kernel), List.mem_of_getElem? (i := 350) (by decide +kernel), List.mem_of_getElem? (i := 351) (by decide +kernel)⟩
theorem lw_p22 : lw_okq (⟨"DumplingPolls$Stew", "sizeOf", "(I)I"⟩, 6) := ⟨⟨by decide +kernel, by decide +kernel⟩, List.mem_of_getElem? (i := 107) (by decide +kernel), List.mem_of_getElem? (i := 354) (by decide +kernel), List.mem_of_getElem? (i := 355) (by decide +kernel)⟩
theorem lw_p23 : lw_okq (⟨"DumplingPolls$Stew", "risenAheadOf", "(I)I"⟩, 6) := ⟨⟨by decide +kernel, by decide +kernel⟩, List.mem_of_getElem? (i := 107) (by decide +kernel), List.mem_of_getElem? (i := 364) (by decide +kernel), List.mem_of_getElem? (i := 365) (by decide +kernel)⟩
theorem lw_p24 : lw_okq (⟨"DumplingPolls$Past", "remember", "(LDumplingPolls$Stew;)V"⟩, 3) := ⟨⟨by decide +kernel, by decide +kernel⟩, List.mem_of_getElem? (i := 138) (by decide +kernel), List.mem_of_getElem? (i := 373) (by decide +kernel), List.mem_of_getElem? (i := 374) (by decide +kernel)⟩
theorem lw_p25 : lw_okq (⟨"DumplingPolls$Past", "place", "()LDumplingPolls$Stew;"⟩, 3) := ⟨⟨by decide +kernel, by decide +kernel⟩, List.mem_of_getElem? (i := 138) (by decide +kernel), List.mem_of_getElem? (i := 377) (by decide +kernel), List.mem_of_getElem? (i := 378) (by decide +kernel)⟩
theorem lw_p26 : lw_okq (⟨"DumplingPolls$Stew", "copy", "(LDumplingPolls$Stew;)V"⟩, 6) := ⟨⟨by decide +kernel, by decide +kernel⟩, List.mem_of_getElem? (i := 107) (by decide +kernel), List.mem_of_getElem? (i := 384) (by decide +kernel), List.mem_of_getElem? (i := 385) (by decide +kernel)⟩
theorem lw_p27 : lw_okq (⟨"DumplingPolls$Stew", "drop", "(I)V"⟩, 6) := ⟨⟨by decide +kernel, by decide +kernel⟩, List.mem_of_getElem? (i := 107) (by decide +kernel), List.mem_of_getElem? (i := 390) (by decide +kernel), List.mem_of_getElem? (i := 391) (by decide +kernel)⟩
theorem lw_p28 : lw_okq (⟨"DumplingPolls$Stew", "passMinute", "(LDumplingPolls$Recipe;)V"⟩, 6) := ⟨⟨by decide +kernel, by decide +kernel⟩, List.mem_of_getElem? (i := 107) (by decide +kernel), List.mem_of_getElem? (i := 398) (by decide +kernel), List.mem_of_getElem? (i := 399) (by decide +kernel)⟩
theorem lw_p29 : lw_okq (⟨"DumplingPolls$Stew", "swell", "(LDumplingPolls$Recipe;)V"⟩, 6) := ⟨⟨by decide +kernel, by decide +kernel⟩, List.mem_of_getElem? (i := 107) (by decide +kernel), List.mem_of_getElem? (i := 402) (by decide +kernel), List.mem_of_getElem? (i := 403) (by decide +kernel)⟩
theorem lw_p30 : lw_okq (⟨"DumplingPolls$Stew", "moveLumps", "(LDumplingPolls$Recipe;)V"⟩, 6) := ⟨⟨by decide +kernel, by decide +kernel⟩, List.mem_of_getElem? (i := 107) (by decide +kernel), List.mem_of_getElem? (i := 407) (by decide +kernel), List.mem_of_getElem? (i := 408) (by decide +kernel)⟩
theorem lw_p31 : lw_okq (⟨"DumplingPolls$Stew", "liftOf", "(ILDumplingPolls$Recipe;)I"⟩, 6) := ⟨⟨by decide +kernel, by decide +kernel⟩, List.mem_of_getElem? (i := 107) (by decide +kernel), List.mem_of_getElem? (i := 411) (by decide +kernel), List.mem_of_getElem? (i := 412) (by decide +kernel)⟩
def lw_privs_2 : List (MethodName × Nat) := [(⟨"DumplingPolls$Stew", "isDry", "(I)Z"⟩, 6), (⟨"DumplingPolls$Stew", "upOnes", "()I"⟩, 6), (⟨"DumplingPolls$Stew", "risenOnes", "()I"⟩, 6), (⟨"DumplingPolls$Stew", "hasRisen", "(I)Z"⟩, 6), (⟨"DumplingPolls", "fewestPots", "()I"⟩, 13), (⟨"DumplingPolls", "fewestPotsOf", "(I)I"⟩, 13), (⟨"DumplingPolls$Stew", "sizeOf", "(I)I"⟩, 6), (⟨"DumplingPolls$Stew", "risenAheadOf", "(I)I"⟩, 6), (⟨"DumplingPolls$Past", "remember", "(LDumplingPolls$Stew;)V"⟩, 3), (⟨"DumplingPolls$Past", "place", "()LDumplingPolls$Stew;"⟩, 3), (⟨"DumplingPolls$Stew", "copy", "(LDumplingPolls$Stew;)V"⟩, 6), (⟨"DumplingPolls$Stew", "drop", "(I)V"⟩, 6), (⟨"DumplingPolls$Stew", "passMinute", "(LDumplingPolls$Recipe;)V"⟩, 6), (⟨"DumplingPolls$Stew", "swell", "(LDumplingPolls$Recipe;)V"⟩, 6), (⟨"DumplingPolls$Stew", "moveLumps", "(LDumplingPolls$Recipe;)V"⟩, 6), (⟨"DumplingPolls$Stew", "liftOf", "(ILDumplingPolls$Recipe;)I"⟩, 6)]
theorem lw_r2 : ∀ q ∈ lw_privs_2, lw_okq q := List.forall_mem_cons.mpr ⟨lw_p16, List.forall_mem_cons.mpr ⟨lw_p17, List.forall_mem_cons.mpr ⟨lw_p18, List.forall_mem_cons.mpr ⟨lw_p19, List.forall_mem_cons.mpr ⟨lw_p20, List.forall_mem_cons.mpr ⟨lw_p21, List.forall_mem_cons.mpr ⟨lw_p22, List.forall_mem_cons.mpr ⟨lw_p23, List.forall_mem_cons.mpr ⟨lw_p24, List.forall_mem_cons.mpr ⟨lw_p25, List.forall_mem_cons.mpr ⟨lw_p26, List.forall_mem_cons.mpr ⟨lw_p27, List.forall_mem_cons.mpr ⟨lw_p28, List.forall_mem_cons.mpr ⟨lw_p29, List.forall_mem_cons.mpr ⟨lw_p30, List.forall_mem_cons.mpr ⟨lw_p31, fun _ h => absurd h List.not_mem_nil⟩⟩⟩⟩⟩⟩⟩⟩⟩⟩⟩⟩⟩⟩⟩⟩
theorem lw_p32 : lw_okq (⟨"DumplingPolls$Stew", "stick", "(I)V"⟩, 6) := ⟨⟨by decide +kernel, by decide +kernel⟩, List.mem_of_getElem? (i := 107) (by decide +kernel), List.mem_of_getElem? (i := 421) (by decide +kernel), List.mem_of_getElem? (i := 422) (by decide +kernel)⟩
theorem lw_p33 : lw_okq (⟨"DumplingPolls$Stew", "canStick", "(III)Z"⟩, 6) := ⟨⟨by decide +kernel, by decide +kernel⟩, List.mem_of_getElem? (i := 107) (by decide +kernel), List.mem_of_getElem? (i := 425) (by decide +kernel), List.mem_of_getElem? (i := 426) (by decide +kernel)⟩
theorem lw_p34 : lw_okq (⟨"DumplingPolls$Stew", "join", "(I)V"⟩, 6) := ⟨⟨by decide +kernel, by decide +kernel⟩, List.mem_of_getElem? (i := 107) (by decide +kernel), List.mem_of_getElem? (i := 432) (by decide +kernel), List.mem_of_getElem? (i := 433) (by decide +kernel)⟩
theorem lw_p35 : lw_okq (⟨"DumplingPolls$Stew", "skewer", "(I)V"⟩, 6) := ⟨⟨by decide +kernel, by decide +kernel⟩, List.mem_of_getElem? (i := 107) (by decide +kernel), List.mem_of_getElem? (i := 444) (by decide +kernel), List.mem_of_getElem? (i := 445) (by decide +kernel)⟩
theorem lw_p36 : lw_okq (⟨"DumplingPolls$Stew", "dip", "(I)V"⟩, 6) := ⟨⟨by decide +kernel, by decide +kernel⟩, List.mem_of_getElem? (i := 107) (by decide +kernel), List.mem_of_getElem? (i := 453) (by decide +kernel), List.mem_of_getElem? (i := 454) (by decide +kernel)⟩
theorem lw_p37 : lw_okq (⟨"DumplingPolls$Past", "recall", "(LDumplingPolls$Stew;)V"⟩, 3) := ⟨⟨by decide +kernel, by decide +kernel⟩, List.mem_of_getElem? (i := 138) (by decide +kernel), List.mem_of_getElem? (i := 461) (by decide +kernel), List.mem_of_getElem? (i := 462) (by decide +kernel)⟩
theorem lw_p38 : lw_okq (⟨"DumplingPolls", "minutesTillUp", "(III)I"⟩, 13) := ⟨⟨by decide +kernel, by decide +kernel⟩, List.mem_of_getElem? (i := 13) (by decide +kernel), List.mem_of_getElem? (i := 475) (by decide +kernel), List.mem_of_getElem? (i := 476) (by decide +kernel)⟩
theorem lw_p39 : lw_okq (⟨"DumplingPolls", "risesFirst", "(III)Z"⟩, 13) := ⟨⟨by decide +kernel, by decide +kernel⟩, List.mem_of_getElem? (i := 13) (by decide +kernel), List.mem_of_getElem? (i := 490) (by decide +kernel), List.mem_of_getElem? (i := 491) (by decide +kernel)⟩
theorem lw_p40 : lw_okq (⟨"DumplingPolls$Stew", "firstRisenNow", "()I"⟩, 6) := ⟨⟨by decide +kernel, by decide +kernel⟩, List.mem_of_getElem? (i := 107) (by decide +kernel), List.mem_of_getElem? (i := 494) (by decide +kernel), List.mem_of_getElem? (i := 495) (by decide +kernel)⟩
theorem lw_p41 : lw_okq (⟨"DumplingPolls$Recipe", "seatsOf", "(I)I"⟩, 8) := ⟨⟨by decide +kernel, by decide +kernel⟩, List.mem_of_getElem? (i := 60) (by decide +kernel), List.mem_of_getElem? (i := 502) (by decide +kernel), List.mem_of_getElem? (i := 503) (by decide +kernel)⟩
theorem lw_p42 : lw_okq (⟨"DumplingPolls$Sightings", "add", "(III)Z"⟩, 4) := ⟨⟨by decide +kernel, by decide +kernel⟩, List.mem_of_getElem? (i := 158) (by decide +kernel), List.mem_of_getElem? (i := 524) (by decide +kernel), List.mem_of_getElem? (i := 525) (by decide +kernel)⟩
theorem lw_p43 : lw_okq (⟨"DumplingPolls", "fittingWeights", "(I)J"⟩, 13) := ⟨⟨by decide +kernel, by decide +kernel⟩, List.mem_of_getElem? (i := 13) (by decide +kernel), List.mem_of_getElem? (i := 536) (by decide +kernel), List.mem_of_getElem? (i := 537) (by decide +kernel)⟩
theorem lw_p44 : lw_okq (⟨"DumplingPolls", "fitsWhatIsSeen", "(II)Z"⟩, 13) := ⟨⟨by decide +kernel, by decide +kernel⟩, List.mem_of_getElem? (i := 13) (by decide +kernel), List.mem_of_getElem? (i := 540) (by decide +kernel), List.mem_of_getElem? (i := 541) (by decide +kernel)⟩
theorem lw_p45 : lw_okq (⟨"DumplingPolls", "depthAlone", "(III)I"⟩, 13) := ⟨⟨by decide +kernel, by decide +kernel⟩, List.mem_of_getElem? (i := 13) (by decide +kernel), List.mem_of_getElem? (i := 544) (by decide +kernel), List.mem_of_getElem? (i := 545) (by decide +kernel)⟩
theorem lw_p46 : lw_okq (⟨"DumplingPolls", "mostAlike", "(IIJ)I"⟩, 13) := ⟨⟨by decide +kernel, by decide +kernel⟩, List.mem_of_getElem? (i := 13) (by decide +kernel), List.mem_of_getElem? (i := 565) (by decide +kernel), List.mem_of_getElem? (i := 566) (by decide +kernel)⟩
theorem lw_p47 : lw_okq (⟨"DumplingPolls", "oneMoreAt", "(I)I"⟩, 13) := ⟨⟨by decide +kernel, by decide +kernel⟩, List.mem_of_getElem? (i := 13) (by decide +kernel), List.mem_of_getElem? (i := 569) (by decide +kernel), List.mem_of_getElem? (i := 570) (by decide +kernel)⟩
def lw_privs_3 : List (MethodName × Nat) := [(⟨"DumplingPolls$Stew", "stick", "(I)V"⟩, 6), (⟨"DumplingPolls$Stew", "canStick", "(III)Z"⟩, 6), (⟨"DumplingPolls$Stew", "join", "(I)V"⟩, 6), (⟨"DumplingPolls$Stew", "skewer", "(I)V"⟩, 6), (⟨"DumplingPolls$Stew", "dip", "(I)V"⟩, 6), (⟨"DumplingPolls$Past", "recall", "(LDumplingPolls$Stew;)V"⟩, 3), (⟨"DumplingPolls", "minutesTillUp", "(III)I"⟩, 13), (⟨"DumplingPolls", "risesFirst", "(III)Z"⟩, 13), (⟨"DumplingPolls$Stew", "firstRisenNow", "()I"⟩, 6), (⟨"DumplingPolls$Recipe", "seatsOf", "(I)I"⟩, 8), (⟨"DumplingPolls$Sightings", "add", "(III)Z"⟩, 4), (⟨"DumplingPolls", "fittingWeights", "(I)J"⟩, 13), (⟨"DumplingPolls", "fitsWhatIsSeen", "(II)Z"⟩, 13), (⟨"DumplingPolls", "depthAlone", "(III)I"⟩, 13), (⟨"DumplingPolls", "mostAlike", "(IIJ)I"⟩, 13), (⟨"DumplingPolls", "oneMoreAt", "(I)I"⟩, 13)]
theorem lw_r3 : ∀ q ∈ lw_privs_3, lw_okq q := List.forall_mem_cons.mpr ⟨lw_p32, List.forall_mem_cons.mpr ⟨lw_p33, List.forall_mem_cons.mpr ⟨lw_p34, List.forall_mem_cons.mpr ⟨lw_p35, List.forall_mem_cons.mpr ⟨lw_p36, List.forall_mem_cons.mpr ⟨lw_p37, List.forall_mem_cons.mpr ⟨lw_p38, List.forall_mem_cons.mpr ⟨lw_p39, List.forall_mem_cons.mpr ⟨lw_p40, List.forall_mem_cons.mpr ⟨lw_p41, List.forall_mem_cons.mpr ⟨lw_p42, List.forall_mem_cons.mpr ⟨lw_p43, List.forall_mem_cons.mpr ⟨lw_p44, List.forall_mem_cons.mpr ⟨lw_p45, List.forall_mem_cons.mpr ⟨lw_p46, List.forall_mem_cons.mpr ⟨lw_p47, fun _ h => absurd h List.not_mem_nil⟩⟩⟩⟩⟩⟩⟩⟩⟩⟩⟩⟩⟩⟩⟩⟩
theorem lw_p48 : lw_okq (⟨"DumplingPolls", "dough", "(I)I"⟩, 13) := ⟨⟨by decide +kernel, by decide +kernel⟩, List.mem_of_getElem? (i := 13) (by decide +kernel), List.mem_of_getElem? (i := 578) (by decide +kernel), List.mem_of_getElem? (i := 579) (by decide +kernel)⟩
theorem lw_p49 : lw_okq (⟨"DumplingPolls", "suet", "(I)I"⟩, 13) := ⟨⟨by decide +kernel, by decide +kernel⟩, List.mem_of_getElem? (i := 13) (by decide +kernel), List.mem_of_getElem? (i := 582) (by decide +kernel), List.mem_of_getElem? (i := 583) (by decide +kernel)⟩
theorem lw_p50 : lw_okq (⟨"DumplingPolls", "parsley", "(I)I"⟩, 13) := ⟨⟨by decide +kernel, by decide +kernel⟩, List.mem_of_getElem? (i := 13) (by decide +kernel), List.mem_of_getElem? (i := 587) (by decide +kernel), List.mem_of_getElem? (i := 588) (by decide +kernel)⟩
theorem lw_p51 : lw_okq (⟨"DumplingPolls", "leader", "(I)I"⟩, 13) := ⟨⟨by decide +kernel, by decide +kernel⟩, List.mem_of_getElem? (i := 13) (by decide +kernel), List.mem_of_getElem? (i := 592) (by decide +kernel), List.mem_of_getElem? (i := 593) (by decide +kernel)⟩
theorem lw_p52 : lw_okq (⟨"DumplingPolls", "carrot", "(I)I"⟩, 13) := ⟨⟨by decide +kernel, by decide +kernel⟩, List.mem_of_getElem? (i := 13) (by decide +kernel), List.mem_of_getElem? (i := 597) (by decide +kernel), List.mem_of_getElem? (i := 598) (by decide +kernel)⟩
theorem lw_p53 : lw_okq (⟨"DumplingPolls", "bay", "(I)I"⟩, 13) := ⟨⟨by decide +kernel, by decide +kernel⟩, List.mem_of_getElem? (i := 13) (by decide +kernel), List.mem_of_getElem? (i := 602) (by decide +kernel), List.mem_of_getElem? (i := 603) (by decide +kernel)⟩
theorem lw_p54 : lw_okq (⟨"DumplingPolls", "imageOf", "(I)LDumplingPolls$Stew;"⟩, 13) := ⟨⟨by decide +kernel, by decide +kernel⟩, List.mem_of_getElem? (i := 13) (by decide +kernel), List.mem_of_getElem? (i := 611) (by decide +kernel), List.mem_of_getElem? (i := 612) (by decide +kernel)⟩
theorem lw_p55 : lw_okq (⟨"DumplingPollsModel", "next", "()V"⟩, 31) := ⟨⟨by decide +kernel, by decide +kernel⟩, List.mem_of_getElem? (i := 627) (by decide +kernel), List.mem_of_getElem? (i := 743) (by decide +kernel), List.mem_of_getElem? (i := 744) (by decide +kernel)⟩
theorem lw_p56 : lw_okq (⟨"DumplingPollsModel", "letterAt", "(I)I"⟩, 31) := ⟨⟨by decide +kernel, by decide +kernel⟩, List.mem_of_getElem? (i := 627) (by decide +kernel), List.mem_of_getElem? (i := 747) (by decide +kernel), List.mem_of_getElem? (i := 748) (by decide +kernel)⟩
theorem lw_p57 : lw_okq (⟨"DumplingPollsModel", "readItem", "()V"⟩, 31) := ⟨⟨by decide +kernel, by decide +kernel⟩, List.mem_of_getElem? (i := 627) (by decide +kernel), List.mem_of_getElem? (i := 754) (by decide +kernel), List.mem_of_getElem? (i := 755) (by decide +kernel)⟩
theorem lw_p58 : lw_okq (⟨"DumplingPollsModel", "mayBegin", "(I)Z"⟩, 31) := ⟨⟨by decide +kernel, by decide +kernel⟩, List.mem_of_getElem? (i := 627) (by decide +kernel), List.mem_of_getElem? (i := 758) (by decide +kernel), List.mem_of_getElem? (i := 759) (by decide +kernel)⟩
theorem lw_p59 : lw_okq (⟨"DumplingPollsModel", "readBody", "(I)V"⟩, 31) := ⟨⟨by decide +kernel, by decide +kernel⟩, List.mem_of_getElem? (i := 627) (by decide +kernel), List.mem_of_getElem? (i := 762) (by decide +kernel), List.mem_of_getElem? (i := 763) (by decide +kernel)⟩
theorem lw_p60 : lw_okq (⟨"DumplingPollsModel", "takesNumber", "(II)I"⟩, 31) := ⟨⟨by decide +kernel, by decide +kernel⟩, List.mem_of_getElem? (i := 627) (by decide +kernel), List.mem_of_getElem? (i := 766) (by decide +kernel), List.mem_of_getElem? (i := 767) (by decide +kernel)⟩
theorem lw_p61 : lw_okq (⟨"DumplingPollsModel", "settles", "()V"⟩, 31) := ⟨⟨by decide +kernel, by decide +kernel⟩, List.mem_of_getElem? (i := 627) (by decide +kernel), List.mem_of_getElem? (i := 770) (by decide +kernel), List.mem_of_getElem? (i := 771) (by decide +kernel)⟩
theorem lw_p62 : lw_okq (⟨"DumplingPollsModel", "isOne", "(I)Z"⟩, 31) := ⟨⟨by decide +kernel, by decide +kernel⟩, List.mem_of_getElem? (i := 627) (by decide +kernel), List.mem_of_getElem? (i := 778) (by decide +kernel), List.mem_of_getElem? (i := 779) (by decide +kernel)⟩
theorem lw_p63 : lw_okq (⟨"DumplingPollsModel", "asItIs", "()V"⟩, 31) := ⟨⟨by decide +kernel, by decide +kernel⟩, List.mem_of_getElem? (i := 627) (by decide +kernel), List.mem_of_getElem? (i := 786) (by decide +kernel), List.mem_of_getElem? (i := 787) (by decide +kernel)⟩
def lw_privs_4 : List (MethodName × Nat) := [(⟨"DumplingPolls", "dough", "(I)I"⟩, 13), (⟨"DumplingPolls", "suet", "(I)I"⟩, 13), (⟨"DumplingPolls", "parsley", "(I)I"⟩, 13), (⟨"DumplingPolls", "leader", "(I)I"⟩, 13), (⟨"DumplingPolls", "carrot", "(I)I"⟩, 13), (⟨"DumplingPolls", "bay", "(I)I"⟩, 13), (⟨"DumplingPolls", "imageOf", "(I)LDumplingPolls$Stew;"⟩, 13), (⟨"DumplingPollsModel", "next", "()V"⟩, 31), (⟨"DumplingPollsModel", "letterAt", "(I)I"⟩, 31), (⟨"DumplingPollsModel", "readItem", "()V"⟩, 31), (⟨"DumplingPollsModel", "mayBegin", "(I)Z"⟩, 31), (⟨"DumplingPollsModel", "readBody", "(I)V"⟩, 31), (⟨"DumplingPollsModel", "takesNumber", "(II)I"⟩, 31), (⟨"DumplingPollsModel", "settles", "()V"⟩, 31), (⟨"DumplingPollsModel", "isOne", "(I)Z"⟩, 31), (⟨"DumplingPollsModel", "asItIs", "()V"⟩, 31)]
theorem lw_r4 : ∀ q ∈ lw_privs_4, lw_okq q := List.forall_mem_cons.mpr ⟨lw_p48, List.forall_mem_cons.mpr ⟨lw_p49, List.forall_mem_cons.mpr ⟨lw_p50, List.forall_mem_cons.mpr ⟨lw_p51, List.forall_mem_cons.mpr ⟨lw_p52, List.forall_mem_cons.mpr ⟨lw_p53, List.forall_mem_cons.mpr ⟨lw_p54, List.forall_mem_cons.mpr ⟨lw_p55, List.forall_mem_cons.mpr ⟨lw_p56, List.forall_mem_cons.mpr ⟨lw_p57, List.forall_mem_cons.mpr ⟨lw_p58, List.forall_mem_cons.mpr ⟨lw_p59, List.forall_mem_cons.mpr ⟨lw_p60, List.forall_mem_cons.mpr ⟨lw_p61, List.forall_mem_cons.mpr ⟨lw_p62, List.forall_mem_cons.mpr ⟨lw_p63, fun _ h => absurd h List.not_mem_nil⟩⟩⟩⟩⟩⟩⟩⟩⟩⟩⟩⟩⟩⟩⟩⟩
theorem lw_p64 : lw_okq (⟨"DumplingPollsModel", "atDepth", "(I)I"⟩, 31) := ⟨⟨by decide +kernel, by decide +kernel⟩, List.mem_of_getElem? (i := 627) (by decide +kernel), List.mem_of_getElem? (i := 793) (by decide +kernel), List.mem_of_getElem? (i := 794) (by decide +kernel)⟩
theorem lw_p65 : lw_okq (⟨"DumplingPollsModel", "risenMany", "()I"⟩, 31) := ⟨⟨by decide +kernel, by decide +kernel⟩, List.mem_of_getElem? (i := 627) (by decide +kernel), List.mem_of_getElem? (i := 797) (by decide +kernel), List.mem_of_getElem? (i := 798) (by decide +kernel)⟩
theorem lw_p66 : lw_okq (⟨"DumplingPollsModel", "pots", "()I"⟩, 31) := ⟨⟨by decide +kernel, by decide +kernel⟩, List.mem_of_getElem? (i := 627) (by decide +kernel), List.mem_of_getElem? (i := 801) (by decide +kernel), List.mem_of_getElem? (i := 802) (by decide +kernel)⟩
theorem lw_p67 : lw_okq (⟨"DumplingPollsModel", "sizeOf", "(I)I"⟩, 31) := ⟨⟨by decide +kernel, by decide +kernel⟩, List.mem_of_getElem? (i := 627) (by decide +kernel), List.mem_of_getElem? (i := 805) (by decide +kernel), List.mem_of_getElem? (i := 806) (by decide +kernel)⟩
theorem lw_p68 : lw_okq (⟨"DumplingPollsModel", "remembers", "()V"⟩, 31) := ⟨⟨by decide +kernel, by decide +kernel⟩, List.mem_of_getElem? (i := 627) (by decide +kernel), List.mem_of_getElem? (i := 820) (by decide +kernel), List.mem_of_getElem? (i := 821) (by decide +kernel)⟩
theorem lw_p69 : lw_okq (⟨"DumplingPollsModel", "dry", "()I"⟩, 31) := ⟨⟨by decide +kernel, by decide +kernel⟩, List.mem_of_getElem? (i := 627) (by decide +kernel), List.mem_of_getElem? (i := 824) (by decide +kernel), List.mem_of_getElem? (i := 825) (by decide +kernel)⟩
theorem lw_p70 : lw_okq (⟨"DumplingPollsModel", "goesBy", "()V"⟩, 31) := ⟨⟨by decide +kernel, by decide +kernel⟩, List.mem_of_getElem? (i := 627) (by decide +kernel), List.mem_of_getElem? (i := 835) (by decide +kernel), List.mem_of_getElem? (i := 836) (by decide +kernel)⟩
theorem lw_p71 : lw_okq (⟨"DumplingPollsModel", "swell", "()V"⟩, 31) := ⟨⟨by decide +kernel, by decide +kernel⟩, List.mem_of_getElem? (i := 627) (by decide +kernel), List.mem_of_getElem? (i := 839) (by decide +kernel), List.mem_of_getElem? (i := 840) (by decide +kernel)⟩
theorem lw_p72 : lw_okq (⟨"DumplingPollsModel", "floats", "()V"⟩, 31) := ⟨⟨by decide +kernel, by decide +kernel⟩, List.mem_of_getElem? (i := 627) (by decide +kernel), List.mem_of_getElem? (i := 843) (by decide +kernel), List.mem_of_getElem? (i := 844) (by decide +kernel)⟩
theorem lw_p73 : lw_okq (⟨"DumplingPollsModel", "lift", "(I)I"⟩, 31) := ⟨⟨by decide +kernel, by decide +kernel⟩, List.mem_of_getElem? (i := 627) (by decide +kernel), List.mem_of_getElem? (i := 847) (by decide +kernel), List.mem_of_getElem? (i := 848) (by decide +kernel)⟩
theorem lw_p74 : lw_okq (⟨"DumplingPollsModel", "stick", "()V"⟩, 31) := ⟨⟨by decide +kernel, by decide +kernel⟩, List.mem_of_getElem? (i := 627) (by decide +kernel), List.mem_of_getElem? (i := 851) (by decide +kernel), List.mem_of_getElem? (i := 852) (by decide +kernel)⟩
theorem lw_p75 : lw_okq (⟨"DumplingPollsModel", "lays", "(I)V"⟩, 31) := ⟨⟨by decide +kernel, by decide +kernel⟩, List.mem_of_getElem? (i := 627) (by decide +kernel), List.mem_of_getElem? (i := 855) (by decide +kernel), List.mem_of_getElem? (i := 856) (by decide +kernel)⟩
theorem lw_p76 : lw_okq (⟨"DumplingPollsModel", "topped", "(II)I"⟩, 31) := ⟨⟨by decide +kernel, by decide +kernel⟩, List.mem_of_getElem? (i := 627) (by decide +kernel), List.mem_of_getElem? (i := 883) (by decide +kernel), List.mem_of_getElem? (i := 884) (by decide +kernel)⟩
theorem lw_p77 : lw_okq (⟨"DumplingPollsModel", "isFirst", "(II)Z"⟩, 31) := ⟨⟨by decide +kernel, by decide +kernel⟩, List.mem_of_getElem? (i := 627) (by decide +kernel), List.mem_of_getElem? (i := 895) (by decide +kernel), List.mem_of_getElem? (i := 896) (by decide +kernel)⟩
theorem lw_p78 : lw_okq (⟨"DumplingPollsModel", "seatsOf", "(I)I"⟩, 31) := ⟨⟨by decide +kernel, by decide +kernel⟩, List.mem_of_getElem? (i := 627) (by decide +kernel), List.mem_of_getElem? (i := 903) (by decide +kernel), List.mem_of_getElem? (i := 904) (by decide +kernel)⟩
theorem lw_p79 : lw_okq (⟨"DumplingPollsModel", "isSo", "(II)Z"⟩, 31) := ⟨⟨by decide +kernel, by decide +kernel⟩, List.mem_of_getElem? (i := 627) (by decide +kernel), List.mem_of_getElem? (i := 930) (by decide +kernel), List.mem_of_getElem? (i := 931) (by decide +kernel)⟩
def lw_privs_5 : List (MethodName × Nat) := [(⟨"DumplingPollsModel", "atDepth", "(I)I"⟩, 31), (⟨"DumplingPollsModel", "risenMany", "()I"⟩, 31), (⟨"DumplingPollsModel", "pots", "()I"⟩, 31), (⟨"DumplingPollsModel", "sizeOf", "(I)I"⟩, 31), (⟨"DumplingPollsModel", "remembers", "()V"⟩, 31), (⟨"DumplingPollsModel", "dry", "()I"⟩, 31), (⟨"DumplingPollsModel", "goesBy", "()V"⟩, 31), (⟨"DumplingPollsModel", "swell", "()V"⟩, 31), (⟨"DumplingPollsModel", "floats", "()V"⟩, 31), (⟨"DumplingPollsModel", "lift", "(I)I"⟩, 31), (⟨"DumplingPollsModel", "stick", "()V"⟩, 31), (⟨"DumplingPollsModel", "lays", "(I)V"⟩, 31), (⟨"DumplingPollsModel", "topped", "(II)I"⟩, 31), (⟨"DumplingPollsModel", "isFirst", "(II)Z"⟩, 31), (⟨"DumplingPollsModel", "seatsOf", "(I)I"⟩, 31), (⟨"DumplingPollsModel", "isSo", "(II)Z"⟩, 31)]
theorem lw_r5 : ∀ q ∈ lw_privs_5, lw_okq q := List.forall_mem_cons.mpr ⟨lw_p64, List.forall_mem_cons.mpr ⟨lw_p65, List.forall_mem_cons.mpr ⟨lw_p66, List.forall_mem_cons.mpr ⟨lw_p67, List.forall_mem_cons.mpr ⟨lw_p68, List.forall_mem_cons.mpr ⟨lw_p69, List.forall_mem_cons.mpr ⟨lw_p70, List.forall_mem_cons.mpr ⟨lw_p71, List.forall_mem_cons.mpr ⟨lw_p72, List.forall_mem_cons.mpr ⟨lw_p73, List.forall_mem_cons.mpr ⟨lw_p74, List.forall_mem_cons.mpr ⟨lw_p75, List.forall_mem_cons.mpr ⟨lw_p76, List.forall_mem_cons.mpr ⟨lw_p77, List.forall_mem_cons.mpr ⟨lw_p78, List.forall_mem_cons.mpr ⟨lw_p79, fun _ h => absurd h List.not_mem_nil⟩⟩⟩⟩⟩⟩⟩⟩⟩⟩⟩⟩⟩⟩⟩⟩
theorem lw_p80 : lw_okq (⟨"DumplingPollsModel", "deepAlone", "(III)I"⟩, 31) := ⟨⟨by decide +kernel, by decide +kernel⟩, List.mem_of_getElem? (i := 627) (by decide +kernel), List.mem_of_getElem? (i := 934) (by decide +kernel), List.mem_of_getElem? (i := 935) (by decide +kernel)⟩
theorem lw_p81 : lw_okq (⟨"DumplingPollsModel", "greatestPart", "(II)I"⟩, 31) := ⟨⟨by decide +kernel, by decide +kernel⟩, List.mem_of_getElem? (i := 627) (by decide +kernel), List.mem_of_getElem? (i := 943) (by decide +kernel), List.mem_of_getElem? (i := 944) (by decide +kernel)⟩
def lw_privs_6 : List (MethodName × Nat) := [(⟨"DumplingPollsModel", "deepAlone", "(III)I"⟩, 31), (⟨"DumplingPollsModel", "greatestPart", "(II)I"⟩, 31)]
theorem lw_r6 : ∀ q ∈ lw_privs_6, lw_okq q := List.forall_mem_cons.mpr ⟨lw_p80, List.forall_mem_cons.mpr ⟨lw_p81, fun _ h => absurd h List.not_mem_nil⟩⟩
def lw_privs : List (MethodName × Nat) := lw_privs_1 ++ (lw_privs_2 ++ (lw_privs_3 ++ (lw_privs_4 ++ (lw_privs_5 ++ (lw_privs_6)))))
def lw_tbl : List Cond := k2_sels lw_privs ++ tables_1
theorem lw_privs_ok : ∀ q ∈ lw_privs, lw_okq q := by
  show ∀ q ∈ lw_privs_1 ++ (lw_privs_2 ++ (lw_privs_3 ++ (lw_privs_4 ++ (lw_privs_5 ++ (lw_privs_6))))), lw_okq q
  exact List.forall_mem_append.mpr ⟨lw_r1, List.forall_mem_append.mpr ⟨lw_r2, List.forall_mem_append.mpr ⟨lw_r3, List.forall_mem_append.mpr ⟨lw_r4, List.forall_mem_append.mpr ⟨lw_r5, lw_r6⟩⟩⟩⟩⟩
end
section
def RX0 : String := "DumplingPolls$Past"
def TX0 : u_T := fun k => match k with
  | 0 => ("DumplingPolls$Past", "ring", "[LDumplingPolls$Stew;", true)
  | 1 => ("DumplingPolls$Past", "next", "I", false)
  | _ => ("DumplingPolls$Past", "known", "I", false)
def tyX0 : Nat → FieldType := fun k => match k with
  | 0 => .array (.object "DumplingPolls$Stew")
  | 1 => .int
  | _ => .int
abbrev wsX00 : List Cond := u_ws RX0 TX0 3
theorem nmX0 : ∀ a, a < 3 → ∀ b, b < 3 → a ≠ b → (TX0 a).2.1 ≠ (TX0 b).2.1 := by decide +kernel
theorem tyX0_ok : ∀ k, k < 3 → parseFieldDescriptor (TX0 k).2.2.1 = some (tyX0 k) := by decide +kernel
abbrev cX0_init : ByteArray := prog_2_method_1_code
def yX0_init : MethodName := ⟨RX0, "<init>", "()V"⟩
abbrev cX0_remember : ByteArray := prog_2_method_2_code
def yX0_remember : MethodName := ⟨RX0, "remember", "(LDumplingPolls$Stew;)V"⟩
abbrev cX0_recall : ByteArray := prog_2_method_3_code
def yX0_recall : MethodName := ⟨RX0, "recall", "(LDumplingPolls$Stew;)V"⟩
abbrev cX0_place : ByteArray := prog_2_method_4_code
def yX0_place : MethodName := ⟨RX0, "place", "()LDumplingPolls$Stew;"⟩
abbrev cX0_copyInto : ByteArray := prog_2_method_5_code
def yX0_copyInto : MethodName := ⟨RX0, "copyInto", "(LDumplingPolls$Stew;LDumplingPolls$Stew;)V"⟩
def RX1 : String := "DumplingPolls$Reader"
def TX1 : u_T := fun k => match k with
  | 0 => ("DumplingPolls$Reader", "letters", "[I", true)
  | 1 => ("DumplingPolls$Reader", "numbers", "[I", true)
  | 2 => ("DumplingPolls$Reader", "length", "I", false)
  | 3 => ("DumplingPolls$Reader", "place", "I", false)
  | 4 => ("DumplingPolls$Reader", "start", "I", false)
  | 5 => ("DumplingPolls$Reader", "token", "I", false)
  | 6 => ("DumplingPolls$Reader", "value", "I", false)
  | 7 => ("DumplingPolls$Reader", "heatIsTold", "Z", false)
  | 8 => ("DumplingPolls$Reader", "glueIsTold", "Z", false)
  | _ => ("DumplingPolls$Reader", "roomIsTold", "Z", false)
def tyX1 : Nat → FieldType := fun k => match k with
  | 0 => .array .int
  | 1 => .array .int
  | 2 => .int
  | 3 => .int
  | 4 => .int
  | 5 => .int
  | 6 => .int
  | 7 => .boolean
  | 8 => .boolean
  | _ => .boolean
abbrev wsX10 : List Cond := u_ws RX1 TX1 10
theorem nmX1 : ∀ a, a < 10 → ∀ b, b < 10 → a ≠ b → (TX1 a).2.1 ≠ (TX1 b).2.1 := by decide +kernel
theorem tyX1_ok : ∀ k, k < 10 → parseFieldDescriptor (TX1 k).2.2.1 = some (tyX1 k) := by decide +kernel
abbrev cX1_init : ByteArray := prog_3_method_1_code
def yX1_init : MethodName := ⟨RX1, "<init>", "()V"⟩
abbrev cX1_add : ByteArray := prog_3_method_2_code
def yX1_add : MethodName := ⟨RX1, "add", "(I)Z"⟩
abbrev cX1_readInto : ByteArray := prog_3_method_3_code
def yX1_readInto : MethodName := ⟨RX1, "readInto", "(LDumplingPolls$Recipe;)I"⟩
abbrev cX1_readItem : ByteArray := prog_3_method_4_code
def yX1_readItem : MethodName := ⟨RX1, "readItem", "(LDumplingPolls$Recipe;)Z"⟩
abbrev cX1_mayBegin : ByteArray := prog_3_method_5_code
def yX1_mayBegin : MethodName := ⟨RX1, "mayBegin", "(ILDumplingPolls$Recipe;)Z"⟩
abbrev cX1_leastOf : ByteArray := prog_3_method_6_code
def yX1_leastOf : MethodName := ⟨RX1, "leastOf", "(II)I"⟩
abbrev cX1_greatestOf : ByteArray := prog_3_method_7_code
def yX1_greatestOf : MethodName := ⟨RX1, "greatestOf", "(II)I"⟩
abbrev cX1_tell : ByteArray := prog_3_method_8_code
def yX1_tell : MethodName := ⟨RX1, "tell", "(ILDumplingPolls$Recipe;)V"⟩
abbrev cX1_advance : ByteArray := prog_3_method_9_code
def yX1_advance : MethodName := ⟨RX1, "advance", "()V"⟩
abbrev cX1_takeDigits : ByteArray := prog_3_method_10_code
def yX1_takeDigits : MethodName := ⟨RX1, "takeDigits", "()V"⟩
abbrev cX1_letterAt : ByteArray := prog_3_method_11_code
def yX1_letterAt : MethodName := ⟨RX1, "letterAt", "(I)I"⟩
abbrev cX1_isDigit : ByteArray := prog_3_method_12_code
def yX1_isDigit : MethodName := ⟨RX1, "isDigit", "(I)Z"⟩
abbrev cX1_isSign : ByteArray := prog_3_method_13_code
def yX1_isSign : MethodName := ⟨RX1, "isSign", "(I)Z"⟩
def RX2 : String := "DumplingPolls$Recipe"
def TX2 : u_T := fun k => match k with
  | 0 => ("DumplingPolls$Recipe", "dumplings", "I", false)
  | 1 => ("DumplingPolls$Recipe", "heat", "I", false)
  | 2 => ("DumplingPolls$Recipe", "glue", "I", false)
  | 3 => ("DumplingPolls$Recipe", "room", "I", false)
  | 4 => ("DumplingPolls$Recipe", "weight", "[I", true)
  | 5 => ("DumplingPolls$Recipe", "size", "[I", true)
  | 6 => ("DumplingPolls$Recipe", "swell", "[I", true)
  | _ => ("DumplingPolls$Recipe", "seats", "[I", true)
def tyX2 : Nat → FieldType := fun k => match k with
  | 0 => .int
  | 1 => .int
  | 2 => .int
  | 3 => .int
  | 4 => .array .int
  | 5 => .array .int
  | 6 => .array .int
  | _ => .array .int
abbrev wsX20 : List Cond := u_ws RX2 TX2 8
theorem nmX2 : ∀ a, a < 8 → ∀ b, b < 8 → a ≠ b → (TX2 a).2.1 ≠ (TX2 b).2.1 := by decide +kernel
theorem tyX2_ok : ∀ k, k < 8 → parseFieldDescriptor (TX2 k).2.2.1 = some (tyX2 k) := by decide +kernel
abbrev cX2_init : ByteArray := prog_4_method_1_code
def yX2_init : MethodName := ⟨RX2, "<init>", "()V"⟩
abbrev cX2_setAsAtFirst : ByteArray := prog_4_method_2_code
def yX2_setAsAtFirst : MethodName := ⟨RX2, "setAsAtFirst", "()V"⟩
abbrev cX2_copy : ByteArray := prog_4_method_3_code
def yX2_copy : MethodName := ⟨RX2, "copy", "(LDumplingPolls$Recipe;)V"⟩
abbrev cX2_addDumpling : ByteArray := prog_4_method_4_code
def yX2_addDumpling : MethodName := ⟨RX2, "addDumpling", "([I)V"⟩
abbrev cX2_all : ByteArray := prog_4_method_5_code
def yX2_all : MethodName := ⟨RX2, "all", "()I"⟩
abbrev cX2_seatsOf : ByteArray := prog_4_method_6_code
def yX2_seatsOf : MethodName := ⟨RX2, "seatsOf", "(I)I"⟩
def RX3 : String := "DumplingPolls$Sightings"
def TX3 : u_T := fun k => match k with
  | 0 => ("DumplingPolls$Sightings", "one", "[I", true)
  | 1 => ("DumplingPolls$Sightings", "minutes", "[I", true)
  | 2 => ("DumplingPolls$Sightings", "depth", "[I", true)
  | _ => ("DumplingPolls$Sightings", "known", "I", false)
def tyX3 : Nat → FieldType := fun k => match k with
  | 0 => .array .int
  | 1 => .array .int
  | 2 => .array .int
  | _ => .int
abbrev wsX30 : List Cond := u_ws RX3 TX3 4
theorem nmX3 : ∀ a, a < 4 → ∀ b, b < 4 → a ≠ b → (TX3 a).2.1 ≠ (TX3 b).2.1 := by decide +kernel
theorem tyX3_ok : ∀ k, k < 4 → parseFieldDescriptor (TX3 k).2.2.1 = some (tyX3 k) := by decide +kernel
abbrev cX3_init : ByteArray := prog_5_method_1_code
def yX3_init : MethodName := ⟨RX3, "<init>", "()V"⟩
abbrev cX3_add : ByteArray := prog_5_method_2_code
def yX3_add : MethodName := ⟨RX3, "add", "(III)Z"⟩
def RX4 : String := "DumplingPolls$Stew"
def TX4 : u_T := fun k => match k with
  | 0 => ("DumplingPolls$Stew", "minute", "I", false)
  | 1 => ("DumplingPolls$Stew", "heat", "I", false)
  | 2 => ("DumplingPolls$Stew", "depth", "[I", true)
  | 3 => ("DumplingPolls$Stew", "size", "[I", true)
  | 4 => ("DumplingPolls$Stew", "lump", "[I", true)
  | _ => ("DumplingPolls$Stew", "risen", "[I", true)
def tyX4 : Nat → FieldType := fun k => match k with
  | 0 => .int
  | 1 => .int
  | 2 => .array .int
  | 3 => .array .int
  | 4 => .array .int
  | _ => .array .int
abbrev wsX40 : List Cond := u_ws RX4 TX4 6
theorem nmX4 : ∀ a, a < 6 → ∀ b, b < 6 → a ≠ b → (TX4 a).2.1 ≠ (TX4 b).2.1 := by decide +kernel
theorem tyX4_ok : ∀ k, k < 6 → parseFieldDescriptor (TX4 k).2.2.1 = some (tyX4 k) := by decide +kernel
abbrev cX4_init : ByteArray := prog_6_method_1_code
def yX4_init : MethodName := ⟨RX4, "<init>", "()V"⟩
abbrev cX4_begin : ByteArray := prog_6_method_2_code
def yX4_begin : MethodName := ⟨RX4, "begin", "(LDumplingPolls$Recipe;)V"⟩
abbrev cX4_copy : ByteArray := prog_6_method_3_code
def yX4_copy : MethodName := ⟨RX4, "copy", "(LDumplingPolls$Stew;)V"⟩
abbrev cX4_isDry : ByteArray := prog_6_method_4_code
def yX4_isDry : MethodName := ⟨RX4, "isDry", "(I)Z"⟩
abbrev cX4_hasRisen : ByteArray := prog_6_method_5_code
def yX4_hasRisen : MethodName := ⟨RX4, "hasRisen", "(I)Z"⟩
abbrev cX4_wetOnes : ByteArray := prog_6_method_6_code
def yX4_wetOnes : MethodName := ⟨RX4, "wetOnes", "()I"⟩
abbrev cX4_upOnes : ByteArray := prog_6_method_7_code
def yX4_upOnes : MethodName := ⟨RX4, "upOnes", "()I"⟩
abbrev cX4_risenOnes : ByteArray := prog_6_method_8_code
def yX4_risenOnes : MethodName := ⟨RX4, "risenOnes", "()I"⟩
abbrev cX4_risenAheadOf : ByteArray := prog_6_method_9_code
def yX4_risenAheadOf : MethodName := ⟨RX4, "risenAheadOf", "(I)I"⟩
abbrev cX4_firstRisenNow : ByteArray := prog_6_method_10_code
def yX4_firstRisenNow : MethodName := ⟨RX4, "firstRisenNow", "()I"⟩
abbrev cX4_sizeOf : ByteArray := prog_6_method_11_code
def yX4_sizeOf : MethodName := ⟨RX4, "sizeOf", "(I)I"⟩
abbrev cX4_drop : ByteArray := prog_6_method_12_code
def yX4_drop : MethodName := ⟨RX4, "drop", "(I)V"⟩
abbrev cX4_skewer : ByteArray := prog_6_method_13_code
def yX4_skewer : MethodName := ⟨RX4, "skewer", "(I)V"⟩
abbrev cX4_dip : ByteArray := prog_6_method_14_code
def yX4_dip : MethodName := ⟨RX4, "dip", "(I)V"⟩
abbrev cX4_passMinute : ByteArray := prog_6_method_15_code
def yX4_passMinute : MethodName := ⟨RX4, "passMinute", "(LDumplingPolls$Recipe;)V"⟩
abbrev cX4_swell : ByteArray := prog_6_method_16_code
def yX4_swell : MethodName := ⟨RX4, "swell", "(LDumplingPolls$Recipe;)V"⟩
abbrev cX4_moveLumps : ByteArray := prog_6_method_17_code
def yX4_moveLumps : MethodName := ⟨RX4, "moveLumps", "(LDumplingPolls$Recipe;)V"⟩
abbrev cX4_liftOf : ByteArray := prog_6_method_18_code
def yX4_liftOf : MethodName := ⟨RX4, "liftOf", "(ILDumplingPolls$Recipe;)I"⟩
abbrev cX4_stick : ByteArray := prog_6_method_19_code
def yX4_stick : MethodName := ⟨RX4, "stick", "(I)V"⟩
abbrev cX4_canStick : ByteArray := prog_6_method_20_code
def yX4_canStick : MethodName := ⟨RX4, "canStick", "(III)Z"⟩
abbrev cX4_join : ByteArray := prog_6_method_21_code
def yX4_join : MethodName := ⟨RX4, "join", "(I)V"⟩
def RX5 : String := "DumplingPolls"
def TX5 : u_T := fun k => match k with
  | 0 => ("DumplingPolls", "reader", "LDumplingPolls$Reader;", true)
  | 1 => ("DumplingPolls", "told", "LDumplingPolls$Recipe;", true)
  | 2 => ("DumplingPolls", "read", "LDumplingPolls$Recipe;", true)
  | 3 => ("DumplingPolls", "stew", "LDumplingPolls$Stew;", true)
  | 4 => ("DumplingPolls", "later", "LDumplingPolls$Stew;", true)
  | 5 => ("DumplingPolls", "past", "LDumplingPolls$Past;", true)
  | 6 => ("DumplingPolls", "imageZero", "LDumplingPolls$Stew;", true)
  | 7 => ("DumplingPolls", "imageOne", "LDumplingPolls$Stew;", true)
  | 8 => ("DumplingPolls", "imagesKept", "I", false)
  | 9 => ("DumplingPolls", "seen", "LDumplingPolls$Sightings;", true)
  | 10 => ("DumplingPolls", "potsOfSet", "[I", true)
  | 11 => ("DumplingPolls", "alike", "[I", true)
  | _ => ("DumplingPolls", "traced", "J", false)
def tyX5 : Nat → FieldType := fun k => match k with
  | 0 => .object "DumplingPolls$Reader"
  | 1 => .object "DumplingPolls$Recipe"
  | 2 => .object "DumplingPolls$Recipe"
  | 3 => .object "DumplingPolls$Stew"
  | 4 => .object "DumplingPolls$Stew"
  | 5 => .object "DumplingPolls$Past"
  | 6 => .object "DumplingPolls$Stew"
  | 7 => .object "DumplingPolls$Stew"
  | 8 => .int
  | 9 => .object "DumplingPolls$Sightings"
  | 10 => .array .int
  | 11 => .array .int
  | _ => .long
abbrev wsX50 : List Cond := u_ws RX5 TX5 13
theorem nmX5 : ∀ a, a < 13 → ∀ b, b < 13 → a ≠ b → (TX5 a).2.1 ≠ (TX5 b).2.1 := by decide +kernel
theorem tyX5_ok : ∀ k, k < 13 → parseFieldDescriptor (TX5 k).2.2.1 = some (tyX5 k) := by decide +kernel
abbrev cX5_init : ByteArray := prog_1_method_1_code
def yX5_init : MethodName := ⟨RX5, "<init>", "()V"⟩
abbrev cX5_type : ByteArray := prog_1_method_2_code
def yX5_type : MethodName := ⟨RX5, "type", "(I)I"⟩
abbrev cX5_clear : ByteArray := prog_1_method_3_code
def yX5_clear : MethodName := ⟨RX5, "clear", "()I"⟩
abbrev cX5_pot : ByteArray := prog_1_method_4_code
def yX5_pot : MethodName := ⟨RX5, "pot", "()I"⟩
abbrev cX5_dumpling : ByteArray := prog_1_method_5_code
def yX5_dumpling : MethodName := ⟨RX5, "dumpling", "(II)I"⟩
abbrev cX5_now : ByteArray := prog_1_method_6_code
def yX5_now : MethodName := ⟨RX5, "now", "(I)I"⟩
abbrev cX5_order : ByteArray := prog_1_method_7_code
def yX5_order : MethodName := ⟨RX5, "order", "(I)I"⟩
abbrev cX5_drops : ByteArray := prog_1_method_8_code
def yX5_drops : MethodName := ⟨RX5, "drops", "(I)I"⟩
abbrev cX5_minute : ByteArray := prog_1_method_9_code
def yX5_minute : MethodName := ⟨RX5, "minute", "()I"⟩
abbrev cX5_heats : ByteArray := prog_1_method_10_code
def yX5_heats : MethodName := ⟨RX5, "heats", "(I)I"⟩
abbrev cX5_skewers : ByteArray := prog_1_method_11_code
def yX5_skewers : MethodName := ⟨RX5, "skewers", "(I)I"⟩
abbrev cX5_dips : ByteArray := prog_1_method_12_code
def yX5_dips : MethodName := ⟨RX5, "dips", "(I)I"⟩
abbrev cX5_undo : ByteArray := prog_1_method_13_code
def yX5_undo : MethodName := ⟨RX5, "undo", "()I"⟩
abbrev cX5_deep : ByteArray := prog_1_method_14_code
def yX5_deep : MethodName := ⟨RX5, "deep", "(II)I"⟩
abbrev cX5_when : ByteArray := prog_1_method_15_code
def yX5_when : MethodName := ⟨RX5, "when", "(I)I"⟩
abbrev cX5_warm : ByteArray := prog_1_method_16_code
def yX5_warm : MethodName := ⟨RX5, "warm", "(II)I"⟩
abbrev cX5_kept : ByteArray := prog_1_method_17_code
def yX5_kept : MethodName := ⟨RX5, "kept", "(II)I"⟩
abbrev cX5_party : ByteArray := prog_1_method_18_code
def yX5_party : MethodName := ⟨RX5, "party", "(I)I"⟩
abbrev cX5_power : ByteArray := prog_1_method_19_code
def yX5_power : MethodName := ⟨RX5, "power", "(II)I"⟩
abbrev cX5_odds : ByteArray := prog_1_method_20_code
def yX5_odds : MethodName := ⟨RX5, "odds", "(III)I"⟩
abbrev cX5_sees : ByteArray := prog_1_method_21_code
def yX5_sees : MethodName := ⟨RX5, "sees", "(III)I"⟩
abbrev cX5_forget : ByteArray := prog_1_method_22_code
def yX5_forget : MethodName := ⟨RX5, "forget", "()I"⟩
abbrev cX5_weights : ByteArray := prog_1_method_23_code
def yX5_weights : MethodName := ⟨RX5, "weights", "(II)I"⟩
abbrev cX5_look : ByteArray := prog_1_method_24_code
def yX5_look : MethodName := ⟨RX5, "look", "(I)I"⟩
abbrev cX5_rate : ByteArray := prog_1_method_25_code
def yX5_rate : MethodName := ⟨RX5, "rate", "(II)I"⟩
abbrev cX5_keep : ByteArray := prog_1_method_26_code
def yX5_keep : MethodName := ⟨RX5, "keep", "(I)I"⟩
abbrev cX5_back : ByteArray := prog_1_method_27_code
def yX5_back : MethodName := ⟨RX5, "back", "(I)I"⟩
abbrev cX5_count : ByteArray := prog_1_method_28_code
def yX5_count : MethodName := ⟨RX5, "count", "(I)I"⟩
abbrev cX5_trace : ByteArray := prog_1_method_29_code
def yX5_trace : MethodName := ⟨RX5, "trace", "()J"⟩
abbrev cX5_isTold : ByteArray := prog_1_method_30_code
def yX5_isTold : MethodName := ⟨RX5, "isTold", "(I)Z"⟩
abbrev cX5_dryOnes : ByteArray := prog_1_method_31_code
def yX5_dryOnes : MethodName := ⟨RX5, "dryOnes", "()I"⟩
abbrev cX5_imageOf : ByteArray := prog_1_method_32_code
def yX5_imageOf : MethodName := ⟨RX5, "imageOf", "(I)LDumplingPolls$Stew;"⟩
abbrev cX5_isFewer : ByteArray := prog_1_method_33_code
def yX5_isFewer : MethodName := ⟨RX5, "isFewer", "(II)Z"⟩
abbrev cX5_fewestPots : ByteArray := prog_1_method_34_code
def yX5_fewestPots : MethodName := ⟨RX5, "fewestPots", "()I"⟩
abbrev cX5_fewestPotsOf : ByteArray := prog_1_method_35_code
def yX5_fewestPotsOf : MethodName := ⟨RX5, "fewestPotsOf", "(I)I"⟩
abbrev cX5_minutesTillUp : ByteArray := prog_1_method_36_code
def yX5_minutesTillUp : MethodName := ⟨RX5, "minutesTillUp", "(III)I"⟩
abbrev cX5_risesFirst : ByteArray := prog_1_method_37_code
def yX5_risesFirst : MethodName := ⟨RX5, "risesFirst", "(III)Z"⟩
abbrev cX5_raised : ByteArray := prog_1_method_38_code
def yX5_raised : MethodName := ⟨RX5, "raised", "(II)I"⟩
abbrev cX5_greatestCommon : ByteArray := prog_1_method_39_code
def yX5_greatestCommon : MethodName := ⟨RX5, "greatestCommon", "(II)I"⟩
abbrev cX5_fittingWeights : ByteArray := prog_1_method_40_code
def yX5_fittingWeights : MethodName := ⟨RX5, "fittingWeights", "(I)J"⟩
abbrev cX5_fitsWhatIsSeen : ByteArray := prog_1_method_41_code
def yX5_fitsWhatIsSeen : MethodName := ⟨RX5, "fitsWhatIsSeen", "(II)Z"⟩
abbrev cX5_depthAlone : ByteArray := prog_1_method_42_code
def yX5_depthAlone : MethodName := ⟨RX5, "depthAlone", "(III)I"⟩
abbrev cX5_moved : ByteArray := prog_1_method_43_code
def yX5_moved : MethodName := ⟨RX5, "moved", "(II)I"⟩
abbrev cX5_least : ByteArray := prog_1_method_44_code
def yX5_least : MethodName := ⟨RX5, "least", "(J)I"⟩
abbrev cX5_greatest : ByteArray := prog_1_method_45_code
def yX5_greatest : MethodName := ⟨RX5, "greatest", "(J)I"⟩
abbrev cX5_mostAlike : ByteArray := prog_1_method_46_code
def yX5_mostAlike : MethodName := ⟨RX5, "mostAlike", "(IIJ)I"⟩
abbrev cX5_oneMoreAt : ByteArray := prog_1_method_47_code
def yX5_oneMoreAt : MethodName := ⟨RX5, "oneMoreAt", "(I)I"⟩
abbrev cX5_dough : ByteArray := prog_1_method_48_code
def yX5_dough : MethodName := ⟨RX5, "dough", "(I)I"⟩
abbrev cX5_suet : ByteArray := prog_1_method_49_code
def yX5_suet : MethodName := ⟨RX5, "suet", "(I)I"⟩
abbrev cX5_parsley : ByteArray := prog_1_method_50_code
def yX5_parsley : MethodName := ⟨RX5, "parsley", "(I)I"⟩
abbrev cX5_leader : ByteArray := prog_1_method_51_code
def yX5_leader : MethodName := ⟨RX5, "leader", "(I)I"⟩
abbrev cX5_carrot : ByteArray := prog_1_method_52_code
def yX5_carrot : MethodName := ⟨RX5, "carrot", "(I)I"⟩
abbrev cX5_bay : ByteArray := prog_1_method_53_code
def yX5_bay : MethodName := ⟨RX5, "bay", "(I)I"⟩
def RX6 : String := "DumplingPollsModel"
def TX6 : u_T := fun k => match k with
  | 0 => ("DumplingPollsModel", "many", "I", false)
  | 1 => ("DumplingPollsModel", "weights", "[I", true)
  | 2 => ("DumplingPollsModel", "swells", "[I", true)
  | 3 => ("DumplingPollsModel", "seats", "[I", true)
  | 4 => ("DumplingPollsModel", "warmth", "I", false)
  | 5 => ("DumplingPollsModel", "glue", "I", false)
  | 6 => ("DumplingPollsModel", "room", "I", false)
  | 7 => ("DumplingPollsModel", "st", "[I", true)
  | 8 => ("DumplingPollsModel", "was", "[I", true)
  | 9 => ("DumplingPollsModel", "known", "I", false)
  | 10 => ("DumplingPollsModel", "images", "[I", true)
  | 11 => ("DumplingPollsModel", "isKept", "[Z", true)
  | 12 => ("DumplingPollsModel", "toldMany", "I", false)
  | 13 => ("DumplingPollsModel", "told", "[I", true)
  | 14 => ("DumplingPollsModel", "trace", "J", false)
  | 15 => ("DumplingPollsModel", "text", "[I", true)
  | 16 => ("DumplingPollsModel", "texted", "I", false)
  | 17 => ("DumplingPollsModel", "cursor", "I", false)
  | 18 => ("DumplingPollsModel", "start", "I", false)
  | 19 => ("DumplingPollsModel", "token", "I", false)
  | 20 => ("DumplingPollsModel", "number", "I", false)
  | 21 => ("DumplingPollsModel", "isWrong", "Z", false)
  | 22 => ("DumplingPollsModel", "items", "I", false)
  | 23 => ("DumplingPollsModel", "saidMany", "I", false)
  | 24 => ("DumplingPollsModel", "said", "[I", true)
  | 25 => ("DumplingPollsModel", "saidHeat", "I", false)
  | 26 => ("DumplingPollsModel", "saidGlue", "I", false)
  | 27 => ("DumplingPollsModel", "saidRoom", "I", false)
  | 28 => ("DumplingPollsModel", "now", "[I", true)
  | 29 => ("DumplingPollsModel", "fewest", "[I", true)
  | _ => ("DumplingPollsModel", "parts", "[I", true)
def tyX6 : Nat → FieldType := fun k => match k with
  | 0 => .int
  | 1 => .array .int
  | 2 => .array .int
  | 3 => .array .int
  | 4 => .int
  | 5 => .int
  | 6 => .int
  | 7 => .array .int
  | 8 => .array .int
  | 9 => .int
  | 10 => .array .int
  | 11 => .array .boolean
  | 12 => .int
  | 13 => .array .int
  | 14 => .long
  | 15 => .array .int
  | 16 => .int
  | 17 => .int
  | 18 => .int
  | 19 => .int
  | 20 => .int
  | 21 => .boolean
  | 22 => .int
  | 23 => .int
  | 24 => .array .int
  | 25 => .int
  | 26 => .int
  | 27 => .int
  | 28 => .array .int
  | 29 => .array .int
  | _ => .array .int
abbrev wsX60 : List Cond := u_ws RX6 TX6 31
theorem nmX6 : ∀ a, a < 31 → ∀ b, b < 31 → a ≠ b → (TX6 a).2.1 ≠ (TX6 b).2.1 := by decide +kernel
theorem tyX6_ok : ∀ k, k < 31 → parseFieldDescriptor (TX6 k).2.2.1 = some (tyX6 k) := by decide +kernel
abbrev cX6_init : ByteArray := prog_8_method_1_code
def yX6_init : MethodName := ⟨RX6, "<init>", "()V"⟩
abbrev cX6_in : ByteArray := prog_8_method_3_code
def yX6_in : MethodName := ⟨RX6, "in", "(III)Z"⟩
abbrev cX6_has : ByteArray := prog_8_method_4_code
def yX6_has : MethodName := ⟨RX6, "has", "(II)Z"⟩
abbrev cX6_bits : ByteArray := prog_8_method_5_code
def yX6_bits : MethodName := ⟨RX6, "bits", "(I)I"⟩
abbrev cX6_isOne : ByteArray := prog_8_method_6_code
def yX6_isOne : MethodName := ⟨RX6, "isOne", "(I)Z"⟩
abbrev cX6_copy : ByteArray := prog_8_method_7_code
def yX6_copy : MethodName := ⟨RX6, "copy", "([II[II)V"⟩
abbrev cX6_type : ByteArray := prog_8_method_8_code
def yX6_type : MethodName := ⟨RX6, "type", "(I)I"⟩
abbrev cX6_clear : ByteArray := prog_8_method_9_code
def yX6_clear : MethodName := ⟨RX6, "clear", "()I"⟩
abbrev cX6_letterAt : ByteArray := prog_8_method_10_code
def yX6_letterAt : MethodName := ⟨RX6, "letterAt", "(I)I"⟩
abbrev cX6_isFigure : ByteArray := prog_8_method_11_code
def yX6_isFigure : MethodName := ⟨RX6, "isFigure", "(I)Z"⟩
abbrev cX6_next : ByteArray := prog_8_method_12_code
def yX6_next : MethodName := ⟨RX6, "next", "()V"⟩
abbrev cX6_takesNumber : ByteArray := prog_8_method_13_code
def yX6_takesNumber : MethodName := ⟨RX6, "takesNumber", "(II)I"⟩
abbrev cX6_mayBegin : ByteArray := prog_8_method_14_code
def yX6_mayBegin : MethodName := ⟨RX6, "mayBegin", "(I)Z"⟩
abbrev cX6_readBody : ByteArray := prog_8_method_15_code
def yX6_readBody : MethodName := ⟨RX6, "readBody", "(I)V"⟩
abbrev cX6_readItem : ByteArray := prog_8_method_16_code
def yX6_readItem : MethodName := ⟨RX6, "readItem", "()V"⟩
abbrev cX6_pot : ByteArray := prog_8_method_17_code
def yX6_pot : MethodName := ⟨RX6, "pot", "()I"⟩
abbrev cX6_settles : ByteArray := prog_8_method_18_code
def yX6_settles : MethodName := ⟨RX6, "settles", "()V"⟩
abbrev cX6_asItIs : ByteArray := prog_8_method_19_code
def yX6_asItIs : MethodName := ⟨RX6, "asItIs", "()V"⟩
abbrev cX6_swell : ByteArray := prog_8_method_20_code
def yX6_swell : MethodName := ⟨RX6, "swell", "()V"⟩
abbrev cX6_lift : ByteArray := prog_8_method_21_code
def yX6_lift : MethodName := ⟨RX6, "lift", "(I)I"⟩
abbrev cX6_floats : ByteArray := prog_8_method_22_code
def yX6_floats : MethodName := ⟨RX6, "floats", "()V"⟩
abbrev cX6_stick : ByteArray := prog_8_method_23_code
def yX6_stick : MethodName := ⟨RX6, "stick", "()V"⟩
abbrev cX6_lays : ByteArray := prog_8_method_24_code
def yX6_lays : MethodName := ⟨RX6, "lays", "(I)V"⟩
abbrev cX6_goesBy : ByteArray := prog_8_method_25_code
def yX6_goesBy : MethodName := ⟨RX6, "goesBy", "()V"⟩
abbrev cX6_atDepth : ByteArray := prog_8_method_26_code
def yX6_atDepth : MethodName := ⟨RX6, "atDepth", "(I)I"⟩
abbrev cX6_dry : ByteArray := prog_8_method_27_code
def yX6_dry : MethodName := ⟨RX6, "dry", "()I"⟩
abbrev cX6_dumpling : ByteArray := prog_8_method_28_code
def yX6_dumpling : MethodName := ⟨RX6, "dumpling", "(II)I"⟩
abbrev cX6_risenMany : ByteArray := prog_8_method_29_code
def yX6_risenMany : MethodName := ⟨RX6, "risenMany", "()I"⟩
abbrev cX6_now : ByteArray := prog_8_method_30_code
def yX6_now : MethodName := ⟨RX6, "now", "(I)I"⟩
abbrev cX6_order : ByteArray := prog_8_method_31_code
def yX6_order : MethodName := ⟨RX6, "order", "(I)I"⟩
abbrev cX6_remembers : ByteArray := prog_8_method_32_code
def yX6_remembers : MethodName := ⟨RX6, "remembers", "()V"⟩
abbrev cX6_drops : ByteArray := prog_8_method_33_code
def yX6_drops : MethodName := ⟨RX6, "drops", "(I)I"⟩
abbrev cX6_minute : ByteArray := prog_8_method_34_code
def yX6_minute : MethodName := ⟨RX6, "minute", "()I"⟩
abbrev cX6_heats : ByteArray := prog_8_method_35_code
def yX6_heats : MethodName := ⟨RX6, "heats", "(I)I"⟩
abbrev cX6_skewers : ByteArray := prog_8_method_36_code
def yX6_skewers : MethodName := ⟨RX6, "skewers", "(I)I"⟩
abbrev cX6_dips : ByteArray := prog_8_method_37_code
def yX6_dips : MethodName := ⟨RX6, "dips", "(I)I"⟩
abbrev cX6_undo : ByteArray := prog_8_method_38_code
def yX6_undo : MethodName := ⟨RX6, "undo", "()I"⟩
abbrev cX6_deep : ByteArray := prog_8_method_39_code
def yX6_deep : MethodName := ⟨RX6, "deep", "(II)I"⟩
abbrev cX6_topped : ByteArray := prog_8_method_40_code
def yX6_topped : MethodName := ⟨RX6, "topped", "(II)I"⟩
abbrev cX6_when : ByteArray := prog_8_method_41_code
def yX6_when : MethodName := ⟨RX6, "when", "(I)I"⟩
abbrev cX6_warm : ByteArray := prog_8_method_42_code
def yX6_warm : MethodName := ⟨RX6, "warm", "(II)I"⟩
abbrev cX6_isFirst : ByteArray := prog_8_method_43_code
def yX6_isFirst : MethodName := ⟨RX6, "isFirst", "(II)Z"⟩
abbrev cX6_kept : ByteArray := prog_8_method_44_code
def yX6_kept : MethodName := ⟨RX6, "kept", "(II)I"⟩
abbrev cX6_seatsOf : ByteArray := prog_8_method_45_code
def yX6_seatsOf : MethodName := ⟨RX6, "seatsOf", "(I)I"⟩
abbrev cX6_party : ByteArray := prog_8_method_46_code
def yX6_party : MethodName := ⟨RX6, "party", "(I)I"⟩
abbrev cX6_power : ByteArray := prog_8_method_47_code
def yX6_power : MethodName := ⟨RX6, "power", "(II)I"⟩
abbrev cX6_sizeOf : ByteArray := prog_8_method_48_code
def yX6_sizeOf : MethodName := ⟨RX6, "sizeOf", "(I)I"⟩
abbrev cX6_pots : ByteArray := prog_8_method_49_code
def yX6_pots : MethodName := ⟨RX6, "pots", "()I"⟩
abbrev cX6_lowest : ByteArray := prog_8_method_50_code
def yX6_lowest : MethodName := ⟨RX6, "lowest", "(III)I"⟩
abbrev cX6_odds : ByteArray := prog_8_method_51_code
def yX6_odds : MethodName := ⟨RX6, "odds", "(III)I"⟩
abbrev cX6_sees : ByteArray := prog_8_method_52_code
def yX6_sees : MethodName := ⟨RX6, "sees", "(III)I"⟩
abbrev cX6_forget : ByteArray := prog_8_method_53_code
def yX6_forget : MethodName := ⟨RX6, "forget", "()I"⟩
abbrev cX6_deepAlone : ByteArray := prog_8_method_54_code
def yX6_deepAlone : MethodName := ⟨RX6, "deepAlone", "(III)I"⟩
abbrev cX6_isSo : ByteArray := prog_8_method_55_code
def yX6_isSo : MethodName := ⟨RX6, "isSo", "(II)Z"⟩
abbrev cX6_weights : ByteArray := prog_8_method_56_code
def yX6_weights : MethodName := ⟨RX6, "weights", "(II)I"⟩
abbrev cX6_greatestPart : ByteArray := prog_8_method_57_code
def yX6_greatestPart : MethodName := ⟨RX6, "greatestPart", "(II)I"⟩
abbrev cX6_look : ByteArray := prog_8_method_58_code
def yX6_look : MethodName := ⟨RX6, "look", "(I)I"⟩
abbrev cX6_rate : ByteArray := prog_8_method_59_code
def yX6_rate : MethodName := ⟨RX6, "rate", "(II)I"⟩
abbrev cX6_keep : ByteArray := prog_8_method_60_code
def yX6_keep : MethodName := ⟨RX6, "keep", "(I)I"⟩
abbrev cX6_back : ByteArray := prog_8_method_61_code
def yX6_back : MethodName := ⟨RX6, "back", "(I)I"⟩
abbrev cX6_count : ByteArray := prog_8_method_62_code
def yX6_count : MethodName := ⟨RX6, "count", "(I)I"⟩
abbrev cX6_trace : ByteArray := prog_8_method_63_code
def yX6_trace : MethodName := ⟨RX6, "trace", "()J"⟩
def RJ6 : String := "java/lang/Integer"
def TJ6 : u_T := fun k => match k with
  | _ => ("", "", "", false)
def tyJ6 : Nat → FieldType := fun k => match k with
  | _ => .int
theorem nmJ6 : ∀ a, a < 0 → ∀ b, b < 0 → a ≠ b → (TJ6 a).2.1 ≠ (TJ6 b).2.1 := by decide +kernel
theorem tyJ6_ok : ∀ k, k < 0 → parseFieldDescriptor (TJ6 k).2.2.1 = some (tyJ6 k) := by decide +kernel
abbrev cJ6_bitCount_0f7a4 : ByteArray := prog_9_method_49_code
def yJ6_bitCount_0f7a4 : MethodName := ⟨RJ6, "bitCount", "(I)I"⟩
def RJ13 : String := "java/lang/Long"
def TJ13 : u_T := fun k => match k with
  | _ => ("", "", "", false)
def tyJ13 : Nat → FieldType := fun k => match k with
  | _ => .int
theorem nmJ13 : ∀ a, a < 0 → ∀ b, b < 0 → a ≠ b → (TJ13 a).2.1 ≠ (TJ13 b).2.1 := by decide +kernel
theorem tyJ13_ok : ∀ k, k < 0 → parseFieldDescriptor (TJ13 k).2.2.1 = some (tyJ13 k) := by decide +kernel
abbrev cJ13_bitCount_95d88 : ByteArray := prog_10_method_50_code
def yJ13_bitCount_95d88 : MethodName := ⟨RJ13, "bitCount", "(J)I"⟩
def RJ9 : String := "java/lang/Math"
def TJ9 : u_T := fun k => match k with
  | _ => ("", "", "", false)
def tyJ9 : Nat → FieldType := fun k => match k with
  | _ => .int
theorem nmJ9 : ∀ a, a < 0 → ∀ b, b < 0 → a ≠ b → (TJ9 a).2.1 ≠ (TJ9 b).2.1 := by decide +kernel
theorem tyJ9_ok : ∀ k, k < 0 → parseFieldDescriptor (TJ9 k).2.2.1 = some (tyJ9 k) := by decide +kernel
abbrev cJ9_abs_0f7a4 : ByteArray := prog_11_method_59_code
def yJ9_abs_0f7a4 : MethodName := ⟨RJ9, "abs", "(I)I"⟩
abbrev cJ9_max_7cf53 : ByteArray := prog_11_method_65_code
def yJ9_max_7cf53 : MethodName := ⟨RJ9, "max", "(II)I"⟩
abbrev cJ9_min_7cf53 : ByteArray := prog_11_method_69_code
def yJ9_min_7cf53 : MethodName := ⟨RJ9, "min", "(II)I"⟩
def RJ10 : String := "java/lang/System"
def TJ10 : u_T := fun k => match k with
  | _ => ("", "", "", false)
def tyJ10 : Nat → FieldType := fun k => match k with
  | _ => .int
theorem nmJ10 : ∀ a, a < 0 → ∀ b, b < 0 → a ≠ b → (TJ10 a).2.1 ≠ (TJ10 b).2.1 := by decide +kernel
theorem tyJ10_ok : ∀ k, k < 0 → parseFieldDescriptor (TJ10 k).2.2.1 = some (tyJ10 k) := by decide +kernel
def RL : String := "DumplingPollsLaw"
abbrev cL_law : ByteArray := code
abbrev vwCl : List vw_C := [(RX0, TX0, 3), (RX1, TX1, 10), (RX2, TX2, 8), (RX3, TX3, 4), (RX4, TX4, 6), (RX5, TX5, 13), (RX6, TX6, 31)]
end
section
theorem dX0_init_0 : decode cX0_init 0 = .ok (.aload_n 0, 1) := by decide +kernel
theorem dX0_init_1 : decode cX0_init 1 = .ok (.invokespecial 1, 3) := by decide +kernel
theorem dX0_init_4 : decode cX0_init 4 = .ok (.aload_n 0, 1) := by decide +kernel
theorem dX0_init_5 : decode cX0_init 5 = .ok (.bipush 10, 2) := by decide +kernel
theorem dX0_init_7 : decode cX0_init 7 = .ok (.anewarray 9, 3) := by decide +kernel
theorem dX0_init_10 : decode cX0_init 10 = .ok (.putfield 11, 3) := by decide +kernel
theorem dX0_init_13 : decode cX0_init 13 = .ok (.iconst 0, 1) := by decide +kernel
theorem dX0_init_14 : decode cX0_init 14 = .ok (.istore_n 1, 1) := by decide +kernel
theorem dX0_init_15 : decode cX0_init 15 = .ok (.iload_n 1, 1) := by decide +kernel
theorem dX0_init_16 : decode cX0_init 16 = .ok (.bipush 10, 2) := by decide +kernel
theorem dX0_init_18 : decode cX0_init 18 = .ok (.if_icmp .ge 22, 3) := by decide +kernel
theorem dX0_init_21 : decode cX0_init 21 = .ok (.aload_n 0, 1) := by decide +kernel
theorem dX0_init_22 : decode cX0_init 22 = .ok (.getfield 11, 3) := by decide +kernel
theorem dX0_init_25 : decode cX0_init 25 = .ok (.iload_n 1, 1) := by decide +kernel
theorem dX0_init_26 : decode cX0_init 26 = .ok (.new 9, 3) := by decide +kernel
theorem dX0_init_29 : decode cX0_init 29 = .ok (.dup, 1) := by decide +kernel
theorem dX0_init_30 : decode cX0_init 30 = .ok (.invokespecial 15, 3) := by decide +kernel
theorem dX0_init_33 : decode cX0_init 33 = .ok (.aastore, 1) := by decide +kernel
theorem dX0_init_34 : decode cX0_init 34 = .ok (.iinc 1 1, 3) := by decide +kernel
theorem dX0_init_37 : decode cX0_init 37 = .ok (.goto (-22), 3) := by decide +kernel
theorem dX0_init_40 : decode cX0_init 40 = .ok (.return_, 1) := by decide +kernel
theorem dX0_remember_0 : decode cX0_remember 0 = .ok (.aload_n 0, 1) := by decide +kernel
theorem dX0_remember_1 : decode cX0_remember 1 = .ok (.invokevirtual 16, 3) := by decide +kernel
theorem dX0_remember_4 : decode cX0_remember 4 = .ok (.aload_n 1, 1) := by decide +kernel
theorem dX0_remember_5 : decode cX0_remember 5 = .ok (.invokestatic 20, 3) := by decide +kernel
theorem dX0_remember_8 : decode cX0_remember 8 = .ok (.aload_n 0, 1) := by decide +kernel
theorem dX0_remember_9 : decode cX0_remember 9 = .ok (.aload_n 0, 1) := by decide +kernel
theorem dX0_remember_10 : decode cX0_remember 10 = .ok (.getfield 24, 3) := by decide +kernel
theorem dX0_remember_13 : decode cX0_remember 13 = .ok (.iconst 1, 1) := by decide +kernel
theorem dX0_remember_14 : decode cX0_remember 14 = .ok (.iadd, 1) := by decide +kernel
theorem dX0_remember_15 : decode cX0_remember 15 = .ok (.bipush 10, 2) := by decide +kernel
theorem dX0_remember_17 : decode cX0_remember 17 = .ok (.if_icmp .ge 12, 3) := by decide +kernel
theorem dX0_remember_20 : decode cX0_remember 20 = .ok (.aload_n 0, 1) := by decide +kernel
theorem dX0_remember_21 : decode cX0_remember 21 = .ok (.getfield 24, 3) := by decide +kernel
theorem dX0_remember_24 : decode cX0_remember 24 = .ok (.iconst 1, 1) := by decide +kernel
theorem dX0_remember_25 : decode cX0_remember 25 = .ok (.iadd, 1) := by decide +kernel
theorem dX0_remember_26 : decode cX0_remember 26 = .ok (.goto 4, 3) := by decide +kernel
theorem dX0_remember_29 : decode cX0_remember 29 = .ok (.iconst 0, 1) := by decide +kernel
theorem dX0_remember_30 : decode cX0_remember 30 = .ok (.putfield 24, 3) := by decide +kernel
theorem dX0_remember_33 : decode cX0_remember 33 = .ok (.aload_n 0, 1) := by decide +kernel
theorem dX0_remember_34 : decode cX0_remember 34 = .ok (.bipush 10, 2) := by decide +kernel
theorem dX0_remember_36 : decode cX0_remember 36 = .ok (.aload_n 0, 1) := by decide +kernel
theorem dX0_remember_37 : decode cX0_remember 37 = .ok (.getfield 28, 3) := by decide +kernel
theorem dX0_remember_40 : decode cX0_remember 40 = .ok (.iconst 1, 1) := by decide +kernel
theorem dX0_remember_41 : decode cX0_remember 41 = .ok (.iadd, 1) := by decide +kernel
theorem dX0_remember_42 : decode cX0_remember 42 = .ok (.invokestatic 31, 3) := by decide +kernel
theorem dX0_remember_45 : decode cX0_remember 45 = .ok (.putfield 28, 3) := by decide +kernel
theorem dX0_remember_48 : decode cX0_remember 48 = .ok (.return_, 1) := by decide +kernel
theorem dX0_recall_0 : decode cX0_recall 0 = .ok (.aload_n 0, 1) := by decide +kernel
theorem dX0_recall_1 : decode cX0_recall 1 = .ok (.aload_n 0, 1) := by decide +kernel
theorem dX0_recall_2 : decode cX0_recall 2 = .ok (.getfield 24, 3) := by decide +kernel
theorem dX0_recall_5 : decode cX0_recall 5 = .ok (.ifCond .le 12, 3) := by decide +kernel
theorem dX0_recall_8 : decode cX0_recall 8 = .ok (.aload_n 0, 1) := by decide +kernel
theorem dX0_recall_9 : decode cX0_recall 9 = .ok (.getfield 24, 3) := by decide +kernel
theorem dX0_recall_12 : decode cX0_recall 12 = .ok (.iconst 1, 1) := by decide +kernel
theorem dX0_recall_13 : decode cX0_recall 13 = .ok (.isub, 1) := by decide +kernel
theorem dX0_recall_14 : decode cX0_recall 14 = .ok (.goto 5, 3) := by decide +kernel
theorem dX0_recall_17 : decode cX0_recall 17 = .ok (.bipush 9, 2) := by decide +kernel
theorem dX0_recall_19 : decode cX0_recall 19 = .ok (.putfield 24, 3) := by decide +kernel
theorem dX0_recall_22 : decode cX0_recall 22 = .ok (.aload_n 0, 1) := by decide +kernel
theorem dX0_recall_23 : decode cX0_recall 23 = .ok (.iconst 0, 1) := by decide +kernel
theorem dX0_recall_24 : decode cX0_recall 24 = .ok (.aload_n 0, 1) := by decide +kernel
theorem dX0_recall_25 : decode cX0_recall 25 = .ok (.getfield 28, 3) := by decide +kernel
theorem dX0_recall_28 : decode cX0_recall 28 = .ok (.iconst 1, 1) := by decide +kernel
theorem dX0_recall_29 : decode cX0_recall 29 = .ok (.isub, 1) := by decide +kernel
theorem dX0_recall_30 : decode cX0_recall 30 = .ok (.invokestatic 37, 3) := by decide +kernel
theorem dX0_recall_33 : decode cX0_recall 33 = .ok (.putfield 28, 3) := by decide +kernel
theorem dX0_recall_36 : decode cX0_recall 36 = .ok (.aload_n 1, 1) := by decide +kernel
theorem dX0_recall_37 : decode cX0_recall 37 = .ok (.aload_n 0, 1) := by decide +kernel
theorem dX0_recall_38 : decode cX0_recall 38 = .ok (.invokevirtual 16, 3) := by decide +kernel
theorem dX0_recall_41 : decode cX0_recall 41 = .ok (.invokestatic 20, 3) := by decide +kernel
theorem dX0_recall_44 : decode cX0_recall 44 = .ok (.return_, 1) := by decide +kernel
theorem dX0_place_0 : decode cX0_place 0 = .ok (.aload_n 0, 1) := by decide +kernel
theorem dX0_place_1 : decode cX0_place 1 = .ok (.getfield 24, 3) := by decide +kernel
theorem dX0_place_4 : decode cX0_place 4 = .ok (.ifCond .lt 24, 3) := by decide +kernel
theorem dX0_place_7 : decode cX0_place 7 = .ok (.aload_n 0, 1) := by decide +kernel
theorem dX0_place_8 : decode cX0_place 8 = .ok (.getfield 24, 3) := by decide +kernel
theorem dX0_place_11 : decode cX0_place 11 = .ok (.bipush 10, 2) := by decide +kernel
theorem dX0_place_13 : decode cX0_place 13 = .ok (.if_icmp .ge 15, 3) := by decide +kernel
theorem dX0_place_16 : decode cX0_place 16 = .ok (.aload_n 0, 1) := by decide +kernel
theorem dX0_place_17 : decode cX0_place 17 = .ok (.getfield 11, 3) := by decide +kernel
theorem dX0_place_20 : decode cX0_place 20 = .ok (.aload_n 0, 1) := by decide +kernel
theorem dX0_place_21 : decode cX0_place 21 = .ok (.getfield 24, 3) := by decide +kernel
theorem dX0_place_24 : decode cX0_place 24 = .ok (.aaload, 1) := by decide +kernel
theorem dX0_place_25 : decode cX0_place 25 = .ok (.goto 4, 3) := by decide +kernel
theorem dX0_place_28 : decode cX0_place 28 = .ok (.aconst_null, 1) := by decide +kernel
theorem dX0_place_29 : decode cX0_place 29 = .ok (.areturn, 1) := by decide +kernel
theorem dX0_copyInto_0 : decode cX0_copyInto 0 = .ok (.aload_n 0, 1) := by decide +kernel
theorem dX0_copyInto_1 : decode cX0_copyInto 1 = .ok (.ifnull 12, 3) := by decide +kernel
theorem dX0_copyInto_4 : decode cX0_copyInto 4 = .ok (.aload_n 1, 1) := by decide +kernel
theorem dX0_copyInto_5 : decode cX0_copyInto 5 = .ok (.ifnull 8, 3) := by decide +kernel
theorem dX0_copyInto_8 : decode cX0_copyInto 8 = .ok (.aload_n 0, 1) := by decide +kernel
theorem dX0_copyInto_9 : decode cX0_copyInto 9 = .ok (.aload_n 1, 1) := by decide +kernel
theorem dX0_copyInto_10 : decode cX0_copyInto 10 = .ok (.invokevirtual 40, 3) := by decide +kernel
theorem dX0_copyInto_13 : decode cX0_copyInto 13 = .ok (.return_, 1) := by decide +kernel
theorem dX1_init_0 : decode cX1_init 0 = .ok (.aload_n 0, 1) := by decide +kernel
theorem dX1_init_1 : decode cX1_init 1 = .ok (.invokespecial 3, 3) := by decide +kernel
theorem dX1_init_4 : decode cX1_init 4 = .ok (.aload_n 0, 1) := by decide +kernel
theorem dX1_init_5 : decode cX1_init 5 = .ok (.bipush 120, 2) := by decide +kernel
theorem dX1_init_7 : decode cX1_init 7 = .ok (.newarray .int, 2) := by decide +kernel
theorem dX1_init_9 : decode cX1_init 9 = .ok (.putfield 11, 3) := by decide +kernel
theorem dX1_init_12 : decode cX1_init 12 = .ok (.aload_n 0, 1) := by decide +kernel
theorem dX1_init_13 : decode cX1_init 13 = .ok (.iconst 4, 1) := by decide +kernel
theorem dX1_init_14 : decode cX1_init 14 = .ok (.newarray .int, 2) := by decide +kernel
theorem dX1_init_16 : decode cX1_init 16 = .ok (.putfield 15, 3) := by decide +kernel
theorem dX1_init_19 : decode cX1_init 19 = .ok (.return_, 1) := by decide +kernel
theorem dX1_add_0 : decode cX1_add 0 = .ok (.aload_n 0, 1) := by decide +kernel
theorem dX1_add_1 : decode cX1_add 1 = .ok (.getfield 18, 3) := by decide +kernel
theorem dX1_add_4 : decode cX1_add 4 = .ok (.ifCond .lt 12, 3) := by decide +kernel
theorem dX1_add_7 : decode cX1_add 7 = .ok (.aload_n 0, 1) := by decide +kernel
theorem dX1_add_8 : decode cX1_add 8 = .ok (.getfield 18, 3) := by decide +kernel
theorem dX1_add_11 : decode cX1_add 11 = .ok (.bipush 120, 2) := by decide +kernel
theorem dX1_add_13 : decode cX1_add 13 = .ok (.if_icmp .lt 5, 3) := by decide +kernel
theorem dX1_add_16 : decode cX1_add 16 = .ok (.iconst 0, 1) := by decide +kernel
theorem dX1_add_17 : decode cX1_add 17 = .ok (.ireturn, 1) := by decide +kernel
theorem dX1_add_18 : decode cX1_add 18 = .ok (.aload_n 0, 1) := by decide +kernel
theorem dX1_add_19 : decode cX1_add 19 = .ok (.getfield 11, 3) := by decide +kernel
theorem dX1_add_22 : decode cX1_add 22 = .ok (.aload_n 0, 1) := by decide +kernel
theorem dX1_add_23 : decode cX1_add 23 = .ok (.getfield 18, 3) := by decide +kernel
theorem dX1_add_26 : decode cX1_add 26 = .ok (.iload_n 1, 1) := by decide +kernel
theorem dX1_add_27 : decode cX1_add 27 = .ok (.iastore, 1) := by decide +kernel
theorem dX1_add_28 : decode cX1_add 28 = .ok (.aload_n 0, 1) := by decide +kernel
theorem dX1_add_29 : decode cX1_add 29 = .ok (.dup, 1) := by decide +kernel
theorem dX1_add_30 : decode cX1_add 30 = .ok (.getfield 18, 3) := by decide +kernel
theorem dX1_add_33 : decode cX1_add 33 = .ok (.iconst 1, 1) := by decide +kernel
theorem dX1_add_34 : decode cX1_add 34 = .ok (.iadd, 1) := by decide +kernel
theorem dX1_add_35 : decode cX1_add 35 = .ok (.putfield 18, 3) := by decide +kernel
theorem dX1_add_38 : decode cX1_add 38 = .ok (.iconst 1, 1) := by decide +kernel
theorem dX1_add_39 : decode cX1_add 39 = .ok (.ireturn, 1) := by decide +kernel
theorem dX1_readInto_0 : decode cX1_readInto 0 = .ok (.aload_n 1, 1) := by decide +kernel
theorem dX1_readInto_1 : decode cX1_readInto 1 = .ok (.invokevirtual 22, 3) := by decide +kernel
theorem dX1_readInto_4 : decode cX1_readInto 4 = .ok (.aload_n 0, 1) := by decide +kernel
theorem dX1_readInto_5 : decode cX1_readInto 5 = .ok (.iconst 0, 1) := by decide +kernel
theorem dX1_readInto_6 : decode cX1_readInto 6 = .ok (.putfield 27, 3) := by decide +kernel
theorem dX1_readInto_9 : decode cX1_readInto 9 = .ok (.aload_n 0, 1) := by decide +kernel
theorem dX1_readInto_10 : decode cX1_readInto 10 = .ok (.iconst 0, 1) := by decide +kernel
theorem dX1_readInto_11 : decode cX1_readInto 11 = .ok (.putfield 31, 3) := by decide +kernel
theorem dX1_readInto_14 : decode cX1_readInto 14 = .ok (.aload_n 0, 1) := by decide +kernel
theorem dX1_readInto_15 : decode cX1_readInto 15 = .ok (.iconst 0, 1) := by decide +kernel
theorem dX1_readInto_16 : decode cX1_readInto 16 = .ok (.putfield 34, 3) := by decide +kernel
theorem dX1_readInto_19 : decode cX1_readInto 19 = .ok (.aload_n 0, 1) := by decide +kernel
theorem dX1_readInto_20 : decode cX1_readInto 20 = .ok (.iconst 0, 1) := by decide +kernel
theorem dX1_readInto_21 : decode cX1_readInto 21 = .ok (.putfield 37, 3) := by decide +kernel
theorem dX1_readInto_24 : decode cX1_readInto 24 = .ok (.iconst 0, 1) := by decide +kernel
theorem dX1_readInto_25 : decode cX1_readInto 25 = .ok (.istore_n 2, 1) := by decide +kernel
theorem dX1_readInto_26 : decode cX1_readInto 26 = .ok (.aload_n 0, 1) := by decide +kernel
theorem dX1_readInto_27 : decode cX1_readInto 27 = .ok (.invokevirtual 40, 3) := by decide +kernel
theorem dX1_readInto_30 : decode cX1_readInto 30 = .ok (.iconst 0, 1) := by decide +kernel
theorem dX1_readInto_31 : decode cX1_readInto 31 = .ok (.istore_n 3, 1) := by decide +kernel
theorem dX1_readInto_32 : decode cX1_readInto 32 = .ok (.iload_n 3, 1) := by decide +kernel
theorem dX1_readInto_33 : decode cX1_readInto 33 = .ok (.bipush 120, 2) := by decide +kernel
theorem dX1_readInto_35 : decode cX1_readInto 35 = .ok (.if_icmp .ge 39, 3) := by decide +kernel
theorem dX1_readInto_38 : decode cX1_readInto 38 = .ok (.aload_n 0, 1) := by decide +kernel
theorem dX1_readInto_39 : decode cX1_readInto 39 = .ok (.getfield 43, 3) := by decide +kernel
theorem dX1_readInto_42 : decode cX1_readInto 42 = .ok (.ifCond .eq 32, 3) := by decide +kernel
theorem dX1_readInto_45 : decode cX1_readInto 45 = .ok (.aload_n 0, 1) := by decide +kernel
theorem dX1_readInto_46 : decode cX1_readInto 46 = .ok (.aload_n 1, 1) := by decide +kernel
theorem dX1_readInto_47 : decode cX1_readInto 47 = .ok (.invokevirtual 46, 3) := by decide +kernel
theorem dX1_readInto_50 : decode cX1_readInto 50 = .ok (.ifCond .ne 11, 3) := by decide +kernel
theorem dX1_readInto_53 : decode cX1_readInto 53 = .ok (.bipush (-10), 2) := by decide +kernel
theorem dX1_readInto_55 : decode cX1_readInto 55 = .ok (.aload_n 0, 1) := by decide +kernel
theorem dX1_readInto_56 : decode cX1_readInto 56 = .ok (.getfield 50, 3) := by decide +kernel
theorem dX1_readInto_59 : decode cX1_readInto 59 = .ok (.isub, 1) := by decide +kernel
theorem dX1_readInto_60 : decode cX1_readInto 60 = .ok (.ireturn, 1) := by decide +kernel
theorem dX1_readInto_61 : decode cX1_readInto 61 = .ok (.iinc 2 1, 3) := by decide +kernel
theorem dX1_readInto_64 : decode cX1_readInto 64 = .ok (.aload_n 0, 1) := by decide +kernel
theorem dX1_readInto_65 : decode cX1_readInto 65 = .ok (.invokevirtual 40, 3) := by decide +kernel
theorem dX1_readInto_68 : decode cX1_readInto 68 = .ok (.iinc 3 1, 3) := by decide +kernel
theorem dX1_readInto_71 : decode cX1_readInto 71 = .ok (.goto (-39), 3) := by decide +kernel
theorem dX1_readInto_74 : decode cX1_readInto 74 = .ok (.iload_n 2, 1) := by decide +kernel
theorem dX1_readInto_75 : decode cX1_readInto 75 = .ok (.ireturn, 1) := by decide +kernel
theorem dX1_readItem_0 : decode cX1_readItem 0 = .ok (.aload_n 0, 1) := by decide +kernel
theorem dX1_readItem_1 : decode cX1_readItem 1 = .ok (.getfield 43, 3) := by decide +kernel
theorem dX1_readItem_4 : decode cX1_readItem 4 = .ok (.istore_n 2, 1) := by decide +kernel
theorem dX1_readItem_5 : decode cX1_readItem 5 = .ok (.aload_n 0, 1) := by decide +kernel
theorem dX1_readItem_6 : decode cX1_readItem 6 = .ok (.iload_n 2, 1) := by decide +kernel
theorem dX1_readItem_7 : decode cX1_readItem 7 = .ok (.aload_n 1, 1) := by decide +kernel
theorem dX1_readItem_8 : decode cX1_readItem 8 = .ok (.invokevirtual 53, 3) := by decide +kernel
theorem dX1_readItem_11 : decode cX1_readItem 11 = .ok (.ifCond .ne 5, 3) := by decide +kernel
theorem dX1_readItem_14 : decode cX1_readItem 14 = .ok (.iconst 0, 1) := by decide +kernel
theorem dX1_readItem_15 : decode cX1_readItem 15 = .ok (.ireturn, 1) := by decide +kernel
theorem dX1_readItem_16 : decode cX1_readItem 16 = .ok (.iload_n 2, 1) := by decide +kernel
theorem dX1_readItem_17 : decode cX1_readItem 17 = .ok (.bipush 100, 2) := by decide +kernel
theorem dX1_readItem_19 : decode cX1_readItem 19 = .ok (.if_icmp .ne 7, 3) := by decide +kernel
theorem dX1_readItem_22 : decode cX1_readItem 22 = .ok (.iconst 4, 1) := by decide +kernel
theorem dX1_readItem_23 : decode cX1_readItem 23 = .ok (.goto 4, 3) := by decide +kernel
theorem dX1_readItem_26 : decode cX1_readItem 26 = .ok (.iconst 1, 1) := by decide +kernel
theorem dX1_readItem_27 : decode cX1_readItem 27 = .ok (.istore_n 3, 1) := by decide +kernel
theorem dX1_readItem_28 : decode cX1_readItem 28 = .ok (.iconst 0, 1) := by decide +kernel
theorem dX1_readItem_29 : decode cX1_readItem 29 = .ok (.istore 4, 2) := by decide +kernel
theorem dX1_readItem_31 : decode cX1_readItem 31 = .ok (.iload 4, 2) := by decide +kernel
theorem dX1_readItem_33 : decode cX1_readItem 33 = .ok (.iload_n 3, 1) := by decide +kernel
theorem dX1_readItem_34 : decode cX1_readItem 34 = .ok (.if_icmp .ge 60, 3) := by decide +kernel
theorem dX1_readItem_37 : decode cX1_readItem 37 = .ok (.aload_n 0, 1) := by decide +kernel
theorem dX1_readItem_38 : decode cX1_readItem 38 = .ok (.invokevirtual 40, 3) := by decide +kernel
theorem dX1_readItem_41 : decode cX1_readItem 41 = .ok (.aload_n 0, 1) := by decide +kernel
theorem dX1_readItem_42 : decode cX1_readItem 42 = .ok (.getfield 43, 3) := by decide +kernel
theorem dX1_readItem_45 : decode cX1_readItem 45 = .ok (.iconst 1, 1) := by decide +kernel
theorem dX1_readItem_46 : decode cX1_readItem 46 = .ok (.if_icmp .ne 29, 3) := by decide +kernel
theorem dX1_readItem_49 : decode cX1_readItem 49 = .ok (.aload_n 0, 1) := by decide +kernel
theorem dX1_readItem_50 : decode cX1_readItem 50 = .ok (.getfield 57, 3) := by decide +kernel
theorem dX1_readItem_53 : decode cX1_readItem 53 = .ok (.iload_n 2, 1) := by decide +kernel
theorem dX1_readItem_54 : decode cX1_readItem 54 = .ok (.iload 4, 2) := by decide +kernel
theorem dX1_readItem_56 : decode cX1_readItem 56 = .ok (.invokestatic 60, 3) := by decide +kernel
theorem dX1_readItem_59 : decode cX1_readItem 59 = .ok (.if_icmp .lt 16, 3) := by decide +kernel
theorem dX1_readItem_62 : decode cX1_readItem 62 = .ok (.aload_n 0, 1) := by decide +kernel
theorem dX1_readItem_63 : decode cX1_readItem 63 = .ok (.getfield 57, 3) := by decide +kernel
theorem dX1_readItem_66 : decode cX1_readItem 66 = .ok (.iload_n 2, 1) := by decide +kernel
theorem dX1_readItem_67 : decode cX1_readItem 67 = .ok (.iload 4, 2) := by decide +kernel
theorem dX1_readItem_69 : decode cX1_readItem 69 = .ok (.invokestatic 64, 3) := by decide +kernel
theorem dX1_readItem_72 : decode cX1_readItem 72 = .ok (.if_icmp .le 5, 3) := by decide +kernel
theorem dX1_readItem_75 : decode cX1_readItem 75 = .ok (.iconst 0, 1) := by decide +kernel
theorem dX1_readItem_76 : decode cX1_readItem 76 = .ok (.ireturn, 1) := by decide +kernel
theorem dX1_readItem_77 : decode cX1_readItem 77 = .ok (.aload_n 0, 1) := by decide +kernel
theorem dX1_readItem_78 : decode cX1_readItem 78 = .ok (.getfield 15, 3) := by decide +kernel
theorem dX1_readItem_81 : decode cX1_readItem 81 = .ok (.iload 4, 2) := by decide +kernel
theorem dX1_readItem_83 : decode cX1_readItem 83 = .ok (.aload_n 0, 1) := by decide +kernel
theorem dX1_readItem_84 : decode cX1_readItem 84 = .ok (.getfield 57, 3) := by decide +kernel
theorem dX1_readItem_87 : decode cX1_readItem 87 = .ok (.iastore, 1) := by decide +kernel
theorem dX1_readItem_88 : decode cX1_readItem 88 = .ok (.iinc 4 1, 3) := by decide +kernel
theorem dX1_readItem_91 : decode cX1_readItem 91 = .ok (.goto (-60), 3) := by decide +kernel
theorem dX1_readItem_94 : decode cX1_readItem 94 = .ok (.aload_n 0, 1) := by decide +kernel
theorem dX1_readItem_95 : decode cX1_readItem 95 = .ok (.invokevirtual 40, 3) := by decide +kernel
theorem dX1_readItem_98 : decode cX1_readItem 98 = .ok (.aload_n 0, 1) := by decide +kernel
theorem dX1_readItem_99 : decode cX1_readItem 99 = .ok (.getfield 43, 3) := by decide +kernel
theorem dX1_readItem_102 : decode cX1_readItem 102 = .ok (.bipush 59, 2) := by decide +kernel
theorem dX1_readItem_104 : decode cX1_readItem 104 = .ok (.if_icmp .eq 5, 3) := by decide +kernel
theorem dX1_readItem_107 : decode cX1_readItem 107 = .ok (.iconst 0, 1) := by decide +kernel
theorem dX1_readItem_108 : decode cX1_readItem 108 = .ok (.ireturn, 1) := by decide +kernel
theorem dX1_readItem_109 : decode cX1_readItem 109 = .ok (.aload_n 0, 1) := by decide +kernel
theorem dX1_readItem_110 : decode cX1_readItem 110 = .ok (.iload_n 2, 1) := by decide +kernel
theorem dX1_readItem_111 : decode cX1_readItem 111 = .ok (.aload_n 1, 1) := by decide +kernel
theorem dX1_readItem_112 : decode cX1_readItem 112 = .ok (.invokevirtual 67, 3) := by decide +kernel
theorem dX1_readItem_115 : decode cX1_readItem 115 = .ok (.iconst 1, 1) := by decide +kernel
theorem dX1_readItem_116 : decode cX1_readItem 116 = .ok (.ireturn, 1) := by decide +kernel
theorem dX1_mayBegin_0 : decode cX1_mayBegin 0 = .ok (.iload_n 1, 1) := by decide +kernel
theorem dX1_mayBegin_1 : decode cX1_mayBegin 1 = .ok (.lookupswitch 97 #[(100, 43), (103, 71), (104, 58), (114, 84)], 43) := by decide +kernel
theorem dX1_mayBegin_44 : decode cX1_mayBegin 44 = .ok (.aload_n 2, 1) := by decide +kernel
theorem dX1_mayBegin_45 : decode cX1_mayBegin 45 = .ok (.getfield 71, 3) := by decide +kernel
theorem dX1_mayBegin_48 : decode cX1_mayBegin 48 = .ok (.bipush 6, 2) := by decide +kernel
theorem dX1_mayBegin_50 : decode cX1_mayBegin 50 = .ok (.if_icmp .ge 7, 3) := by decide +kernel
theorem dX1_mayBegin_53 : decode cX1_mayBegin 53 = .ok (.iconst 1, 1) := by decide +kernel
theorem dX1_mayBegin_54 : decode cX1_mayBegin 54 = .ok (.goto 4, 3) := by decide +kernel
theorem dX1_mayBegin_57 : decode cX1_mayBegin 57 = .ok (.iconst 0, 1) := by decide +kernel
theorem dX1_mayBegin_58 : decode cX1_mayBegin 58 = .ok (.ireturn, 1) := by decide +kernel
theorem dX1_mayBegin_59 : decode cX1_mayBegin 59 = .ok (.aload_n 0, 1) := by decide +kernel
theorem dX1_mayBegin_60 : decode cX1_mayBegin 60 = .ok (.getfield 27, 3) := by decide +kernel
theorem dX1_mayBegin_63 : decode cX1_mayBegin 63 = .ok (.ifCond .ne 7, 3) := by decide +kernel
theorem dX1_mayBegin_66 : decode cX1_mayBegin 66 = .ok (.iconst 1, 1) := by decide +kernel
theorem dX1_mayBegin_67 : decode cX1_mayBegin 67 = .ok (.goto 4, 3) := by decide +kernel
theorem dX1_mayBegin_70 : decode cX1_mayBegin 70 = .ok (.iconst 0, 1) := by decide +kernel
theorem dX1_mayBegin_71 : decode cX1_mayBegin 71 = .ok (.ireturn, 1) := by decide +kernel
theorem dX1_mayBegin_72 : decode cX1_mayBegin 72 = .ok (.aload_n 0, 1) := by decide +kernel
theorem dX1_mayBegin_73 : decode cX1_mayBegin 73 = .ok (.getfield 31, 3) := by decide +kernel
theorem dX1_mayBegin_76 : decode cX1_mayBegin 76 = .ok (.ifCond .ne 7, 3) := by decide +kernel
theorem dX1_mayBegin_79 : decode cX1_mayBegin 79 = .ok (.iconst 1, 1) := by decide +kernel
theorem dX1_mayBegin_80 : decode cX1_mayBegin 80 = .ok (.goto 4, 3) := by decide +kernel
theorem dX1_mayBegin_83 : decode cX1_mayBegin 83 = .ok (.iconst 0, 1) := by decide +kernel
theorem dX1_mayBegin_84 : decode cX1_mayBegin 84 = .ok (.ireturn, 1) := by decide +kernel
theorem dX1_mayBegin_85 : decode cX1_mayBegin 85 = .ok (.aload_n 0, 1) := by decide +kernel
theorem dX1_mayBegin_86 : decode cX1_mayBegin 86 = .ok (.getfield 34, 3) := by decide +kernel
theorem dX1_mayBegin_89 : decode cX1_mayBegin 89 = .ok (.ifCond .ne 7, 3) := by decide +kernel
theorem dX1_mayBegin_92 : decode cX1_mayBegin 92 = .ok (.iconst 1, 1) := by decide +kernel
theorem dX1_mayBegin_93 : decode cX1_mayBegin 93 = .ok (.goto 4, 3) := by decide +kernel
theorem dX1_mayBegin_96 : decode cX1_mayBegin 96 = .ok (.iconst 0, 1) := by decide +kernel
theorem dX1_mayBegin_97 : decode cX1_mayBegin 97 = .ok (.ireturn, 1) := by decide +kernel
theorem dX1_mayBegin_98 : decode cX1_mayBegin 98 = .ok (.iconst 0, 1) := by decide +kernel
theorem dX1_mayBegin_99 : decode cX1_mayBegin 99 = .ok (.ireturn, 1) := by decide +kernel
theorem dX1_leastOf_0 : decode cX1_leastOf 0 = .ok (.iload_n 0, 1) := by decide +kernel
theorem dX1_leastOf_1 : decode cX1_leastOf 1 = .ok (.bipush 114, 2) := by decide +kernel
theorem dX1_leastOf_3 : decode cX1_leastOf 3 = .ok (.if_icmp .ne 6, 3) := by decide +kernel
theorem dX1_leastOf_6 : decode cX1_leastOf 6 = .ok (.bipush 9, 2) := by decide +kernel
theorem dX1_leastOf_8 : decode cX1_leastOf 8 = .ok (.ireturn, 1) := by decide +kernel
theorem dX1_leastOf_9 : decode cX1_leastOf 9 = .ok (.iload_n 0, 1) := by decide +kernel
theorem dX1_leastOf_10 : decode cX1_leastOf 10 = .ok (.bipush 100, 2) := by decide +kernel
theorem dX1_leastOf_12 : decode cX1_leastOf 12 = .ok (.if_icmp .ne 12, 3) := by decide +kernel
theorem dX1_leastOf_15 : decode cX1_leastOf 15 = .ok (.iload_n 1, 1) := by decide +kernel
theorem dX1_leastOf_16 : decode cX1_leastOf 16 = .ok (.iconst 1, 1) := by decide +kernel
theorem dX1_leastOf_17 : decode cX1_leastOf 17 = .ok (.if_icmp .ne 7, 3) := by decide +kernel
theorem dX1_leastOf_20 : decode cX1_leastOf 20 = .ok (.iconst 1, 1) := by decide +kernel
theorem dX1_leastOf_21 : decode cX1_leastOf 21 = .ok (.goto 4, 3) := by decide +kernel
theorem dX1_leastOf_24 : decode cX1_leastOf 24 = .ok (.iconst 0, 1) := by decide +kernel
theorem dX1_leastOf_25 : decode cX1_leastOf 25 = .ok (.ireturn, 1) := by decide +kernel
theorem dX1_greatestOf_0 : decode cX1_greatestOf 0 = .ok (.iload_n 0, 1) := by decide +kernel
theorem dX1_greatestOf_1 : decode cX1_greatestOf 1 = .ok (.bipush 114, 2) := by decide +kernel
theorem dX1_greatestOf_3 : decode cX1_greatestOf 3 = .ok (.if_icmp .ne 6, 3) := by decide +kernel
theorem dX1_greatestOf_6 : decode cX1_greatestOf 6 = .ok (.bipush 40, 2) := by decide +kernel
theorem dX1_greatestOf_8 : decode cX1_greatestOf 8 = .ok (.ireturn, 1) := by decide +kernel
theorem dX1_greatestOf_9 : decode cX1_greatestOf 9 = .ok (.iload_n 0, 1) := by decide +kernel
theorem dX1_greatestOf_10 : decode cX1_greatestOf 10 = .ok (.bipush 100, 2) := by decide +kernel
theorem dX1_greatestOf_12 : decode cX1_greatestOf 12 = .ok (.if_icmp .ne 10, 3) := by decide +kernel
theorem dX1_greatestOf_15 : decode cX1_greatestOf 15 = .ok (.iload_n 1, 1) := by decide +kernel
theorem dX1_greatestOf_16 : decode cX1_greatestOf 16 = .ok (.ifCond .ne 6, 3) := by decide +kernel
theorem dX1_greatestOf_19 : decode cX1_greatestOf 19 = .ok (.bipush 40, 2) := by decide +kernel
theorem dX1_greatestOf_21 : decode cX1_greatestOf 21 = .ok (.ireturn, 1) := by decide +kernel
theorem dX1_greatestOf_22 : decode cX1_greatestOf 22 = .ok (.iload_n 0, 1) := by decide +kernel
theorem dX1_greatestOf_23 : decode cX1_greatestOf 23 = .ok (.bipush 100, 2) := by decide +kernel
theorem dX1_greatestOf_25 : decode cX1_greatestOf 25 = .ok (.if_icmp .ne 12, 3) := by decide +kernel
theorem dX1_greatestOf_28 : decode cX1_greatestOf 28 = .ok (.iload_n 1, 1) := by decide +kernel
theorem dX1_greatestOf_29 : decode cX1_greatestOf 29 = .ok (.iconst 2, 1) := by decide +kernel
theorem dX1_greatestOf_30 : decode cX1_greatestOf 30 = .ok (.if_icmp .ne 7, 3) := by decide +kernel
theorem dX1_greatestOf_33 : decode cX1_greatestOf 33 = .ok (.iconst 3, 1) := by decide +kernel
theorem dX1_greatestOf_34 : decode cX1_greatestOf 34 = .ok (.goto 5, 3) := by decide +kernel
theorem dX1_greatestOf_37 : decode cX1_greatestOf 37 = .ok (.bipush 9, 2) := by decide +kernel
theorem dX1_greatestOf_39 : decode cX1_greatestOf 39 = .ok (.ireturn, 1) := by decide +kernel
theorem dX1_tell_0 : decode cX1_tell 0 = .ok (.iload_n 1, 1) := by decide +kernel
theorem dX1_tell_1 : decode cX1_tell 1 = .ok (.bipush 100, 2) := by decide +kernel
theorem dX1_tell_3 : decode cX1_tell 3 = .ok (.if_icmp .ne 14, 3) := by decide +kernel
theorem dX1_tell_6 : decode cX1_tell 6 = .ok (.aload_n 2, 1) := by decide +kernel
theorem dX1_tell_7 : decode cX1_tell 7 = .ok (.aload_n 0, 1) := by decide +kernel
theorem dX1_tell_8 : decode cX1_tell 8 = .ok (.getfield 15, 3) := by decide +kernel
theorem dX1_tell_11 : decode cX1_tell 11 = .ok (.invokevirtual 74, 3) := by decide +kernel
theorem dX1_tell_14 : decode cX1_tell 14 = .ok (.goto 66, 3) := by decide +kernel
theorem dX1_tell_17 : decode cX1_tell 17 = .ok (.iload_n 1, 1) := by decide +kernel
theorem dX1_tell_18 : decode cX1_tell 18 = .ok (.bipush 104, 2) := by decide +kernel
theorem dX1_tell_20 : decode cX1_tell 20 = .ok (.if_icmp .ne 21, 3) := by decide +kernel
theorem dX1_tell_23 : decode cX1_tell 23 = .ok (.aload_n 2, 1) := by decide +kernel
theorem dX1_tell_24 : decode cX1_tell 24 = .ok (.aload_n 0, 1) := by decide +kernel
theorem dX1_tell_25 : decode cX1_tell 25 = .ok (.getfield 15, 3) := by decide +kernel
theorem dX1_tell_28 : decode cX1_tell 28 = .ok (.iconst 0, 1) := by decide +kernel
theorem dX1_tell_29 : decode cX1_tell 29 = .ok (.iaload, 1) := by decide +kernel
theorem dX1_tell_30 : decode cX1_tell 30 = .ok (.putfield 78, 3) := by decide +kernel
theorem dX1_tell_33 : decode cX1_tell 33 = .ok (.aload_n 0, 1) := by decide +kernel
theorem dX1_tell_34 : decode cX1_tell 34 = .ok (.iconst 1, 1) := by decide +kernel
theorem dX1_tell_35 : decode cX1_tell 35 = .ok (.putfield 27, 3) := by decide +kernel
theorem dX1_tell_38 : decode cX1_tell 38 = .ok (.goto 42, 3) := by decide +kernel
theorem dX1_tell_41 : decode cX1_tell 41 = .ok (.iload_n 1, 1) := by decide +kernel
theorem dX1_tell_42 : decode cX1_tell 42 = .ok (.bipush 103, 2) := by decide +kernel
theorem dX1_tell_44 : decode cX1_tell 44 = .ok (.if_icmp .ne 21, 3) := by decide +kernel
theorem dX1_tell_47 : decode cX1_tell 47 = .ok (.aload_n 2, 1) := by decide +kernel
theorem dX1_tell_48 : decode cX1_tell 48 = .ok (.aload_n 0, 1) := by decide +kernel
theorem dX1_tell_49 : decode cX1_tell 49 = .ok (.getfield 15, 3) := by decide +kernel
theorem dX1_tell_52 : decode cX1_tell 52 = .ok (.iconst 0, 1) := by decide +kernel
theorem dX1_tell_53 : decode cX1_tell 53 = .ok (.iaload, 1) := by decide +kernel
theorem dX1_tell_54 : decode cX1_tell 54 = .ok (.putfield 81, 3) := by decide +kernel
theorem dX1_tell_57 : decode cX1_tell 57 = .ok (.aload_n 0, 1) := by decide +kernel
theorem dX1_tell_58 : decode cX1_tell 58 = .ok (.iconst 1, 1) := by decide +kernel
theorem dX1_tell_59 : decode cX1_tell 59 = .ok (.putfield 31, 3) := by decide +kernel
theorem dX1_tell_62 : decode cX1_tell 62 = .ok (.goto 18, 3) := by decide +kernel
theorem dX1_tell_65 : decode cX1_tell 65 = .ok (.aload_n 2, 1) := by decide +kernel
theorem dX1_tell_66 : decode cX1_tell 66 = .ok (.aload_n 0, 1) := by decide +kernel
theorem dX1_tell_67 : decode cX1_tell 67 = .ok (.getfield 15, 3) := by decide +kernel
theorem dX1_tell_70 : decode cX1_tell 70 = .ok (.iconst 0, 1) := by decide +kernel
theorem dX1_tell_71 : decode cX1_tell 71 = .ok (.iaload, 1) := by decide +kernel
theorem dX1_tell_72 : decode cX1_tell 72 = .ok (.putfield 84, 3) := by decide +kernel
theorem dX1_tell_75 : decode cX1_tell 75 = .ok (.aload_n 0, 1) := by decide +kernel
theorem dX1_tell_76 : decode cX1_tell 76 = .ok (.iconst 1, 1) := by decide +kernel
theorem dX1_tell_77 : decode cX1_tell 77 = .ok (.putfield 34, 3) := by decide +kernel
theorem dX1_tell_80 : decode cX1_tell 80 = .ok (.return_, 1) := by decide +kernel
theorem dX1_advance_0 : decode cX1_advance 0 = .ok (.iconst 0, 1) := by decide +kernel
theorem dX1_advance_1 : decode cX1_advance 1 = .ok (.istore_n 1, 1) := by decide +kernel
theorem dX1_advance_2 : decode cX1_advance 2 = .ok (.iload_n 1, 1) := by decide +kernel
theorem dX1_advance_3 : decode cX1_advance 3 = .ok (.bipush 120, 2) := by decide +kernel
theorem dX1_advance_5 : decode cX1_advance 5 = .ok (.if_icmp .ge 32, 3) := by decide +kernel
theorem dX1_advance_8 : decode cX1_advance 8 = .ok (.aload_n 0, 1) := by decide +kernel
theorem dX1_advance_9 : decode cX1_advance 9 = .ok (.aload_n 0, 1) := by decide +kernel
theorem dX1_advance_10 : decode cX1_advance 10 = .ok (.getfield 37, 3) := by decide +kernel
theorem dX1_advance_13 : decode cX1_advance 13 = .ok (.invokevirtual 87, 3) := by decide +kernel
theorem dX1_advance_16 : decode cX1_advance 16 = .ok (.bipush 32, 2) := by decide +kernel
theorem dX1_advance_18 : decode cX1_advance 18 = .ok (.if_icmp .ne 19, 3) := by decide +kernel
theorem dX1_advance_21 : decode cX1_advance 21 = .ok (.aload_n 0, 1) := by decide +kernel
theorem dX1_advance_22 : decode cX1_advance 22 = .ok (.dup, 1) := by decide +kernel
theorem dX1_advance_23 : decode cX1_advance 23 = .ok (.getfield 37, 3) := by decide +kernel
theorem dX1_advance_26 : decode cX1_advance 26 = .ok (.iconst 1, 1) := by decide +kernel
theorem dX1_advance_27 : decode cX1_advance 27 = .ok (.iadd, 1) := by decide +kernel
theorem dX1_advance_28 : decode cX1_advance 28 = .ok (.putfield 37, 3) := by decide +kernel
theorem dX1_advance_31 : decode cX1_advance 31 = .ok (.iinc 1 1, 3) := by decide +kernel
theorem dX1_advance_34 : decode cX1_advance 34 = .ok (.goto (-32), 3) := by decide +kernel
theorem dX1_advance_37 : decode cX1_advance 37 = .ok (.aload_n 0, 1) := by decide +kernel
theorem dX1_advance_38 : decode cX1_advance 38 = .ok (.aload_n 0, 1) := by decide +kernel
theorem dX1_advance_39 : decode cX1_advance 39 = .ok (.getfield 37, 3) := by decide +kernel
theorem dX1_advance_42 : decode cX1_advance 42 = .ok (.putfield 50, 3) := by decide +kernel
theorem dX1_advance_45 : decode cX1_advance 45 = .ok (.aload_n 0, 1) := by decide +kernel
theorem dX1_advance_46 : decode cX1_advance 46 = .ok (.aload_n 0, 1) := by decide +kernel
theorem dX1_advance_47 : decode cX1_advance 47 = .ok (.getfield 37, 3) := by decide +kernel
theorem dX1_advance_50 : decode cX1_advance 50 = .ok (.invokevirtual 87, 3) := by decide +kernel
theorem dX1_advance_53 : decode cX1_advance 53 = .ok (.istore_n 1, 1) := by decide +kernel
theorem dX1_advance_54 : decode cX1_advance 54 = .ok (.aload_n 0, 1) := by decide +kernel
theorem dX1_advance_55 : decode cX1_advance 55 = .ok (.getfield 37, 3) := by decide +kernel
theorem dX1_advance_58 : decode cX1_advance 58 = .ok (.aload_n 0, 1) := by decide +kernel
theorem dX1_advance_59 : decode cX1_advance 59 = .ok (.getfield 18, 3) := by decide +kernel
theorem dX1_advance_62 : decode cX1_advance 62 = .ok (.if_icmp .lt 11, 3) := by decide +kernel
theorem dX1_advance_65 : decode cX1_advance 65 = .ok (.aload_n 0, 1) := by decide +kernel
theorem dX1_advance_66 : decode cX1_advance 66 = .ok (.iconst 0, 1) := by decide +kernel
theorem dX1_advance_67 : decode cX1_advance 67 = .ok (.putfield 43, 3) := by decide +kernel
theorem dX1_advance_70 : decode cX1_advance 70 = .ok (.goto 43, 3) := by decide +kernel
theorem dX1_advance_73 : decode cX1_advance 73 = .ok (.iload_n 1, 1) := by decide +kernel
theorem dX1_advance_74 : decode cX1_advance 74 = .ok (.invokestatic 91, 3) := by decide +kernel
theorem dX1_advance_77 : decode cX1_advance 77 = .ok (.ifCond .eq 10, 3) := by decide +kernel
theorem dX1_advance_80 : decode cX1_advance 80 = .ok (.aload_n 0, 1) := by decide +kernel
theorem dX1_advance_81 : decode cX1_advance 81 = .ok (.invokevirtual 95, 3) := by decide +kernel
theorem dX1_advance_84 : decode cX1_advance 84 = .ok (.goto 29, 3) := by decide +kernel
theorem dX1_advance_87 : decode cX1_advance 87 = .ok (.aload_n 0, 1) := by decide +kernel
theorem dX1_advance_88 : decode cX1_advance 88 = .ok (.dup, 1) := by decide +kernel
theorem dX1_advance_89 : decode cX1_advance 89 = .ok (.getfield 37, 3) := by decide +kernel
theorem dX1_advance_92 : decode cX1_advance 92 = .ok (.iconst 1, 1) := by decide +kernel
theorem dX1_advance_93 : decode cX1_advance 93 = .ok (.iadd, 1) := by decide +kernel
theorem dX1_advance_94 : decode cX1_advance 94 = .ok (.putfield 37, 3) := by decide +kernel
theorem dX1_advance_97 : decode cX1_advance 97 = .ok (.aload_n 0, 1) := by decide +kernel
theorem dX1_advance_98 : decode cX1_advance 98 = .ok (.iload_n 1, 1) := by decide +kernel
theorem dX1_advance_99 : decode cX1_advance 99 = .ok (.invokestatic 98, 3) := by decide +kernel
theorem dX1_advance_102 : decode cX1_advance 102 = .ok (.ifCond .eq 7, 3) := by decide +kernel
theorem dX1_advance_105 : decode cX1_advance 105 = .ok (.iload_n 1, 1) := by decide +kernel
theorem dX1_advance_106 : decode cX1_advance 106 = .ok (.goto 4, 3) := by decide +kernel
theorem dX1_advance_109 : decode cX1_advance 109 = .ok (.iconst 2, 1) := by decide +kernel
theorem dX1_advance_110 : decode cX1_advance 110 = .ok (.putfield 43, 3) := by decide +kernel
theorem dX1_advance_113 : decode cX1_advance 113 = .ok (.return_, 1) := by decide +kernel
theorem dX1_takeDigits_0 : decode cX1_takeDigits 0 = .ok (.aload_n 0, 1) := by decide +kernel
theorem dX1_takeDigits_1 : decode cX1_takeDigits 1 = .ok (.iconst 0, 1) := by decide +kernel
theorem dX1_takeDigits_2 : decode cX1_takeDigits 2 = .ok (.putfield 57, 3) := by decide +kernel
theorem dX1_takeDigits_5 : decode cX1_takeDigits 5 = .ok (.iconst 0, 1) := by decide +kernel
theorem dX1_takeDigits_6 : decode cX1_takeDigits 6 = .ok (.istore_n 1, 1) := by decide +kernel
theorem dX1_takeDigits_7 : decode cX1_takeDigits 7 = .ok (.iload_n 1, 1) := by decide +kernel
theorem dX1_takeDigits_8 : decode cX1_takeDigits 8 = .ok (.bipush 120, 2) := by decide +kernel
theorem dX1_takeDigits_10 : decode cX1_takeDigits 10 = .ok (.if_icmp .ge 61, 3) := by decide +kernel
theorem dX1_takeDigits_13 : decode cX1_takeDigits 13 = .ok (.aload_n 0, 1) := by decide +kernel
theorem dX1_takeDigits_14 : decode cX1_takeDigits 14 = .ok (.aload_n 0, 1) := by decide +kernel
theorem dX1_takeDigits_15 : decode cX1_takeDigits 15 = .ok (.getfield 37, 3) := by decide +kernel
theorem dX1_takeDigits_18 : decode cX1_takeDigits 18 = .ok (.invokevirtual 87, 3) := by decide +kernel
theorem dX1_takeDigits_21 : decode cX1_takeDigits 21 = .ok (.invokestatic 91, 3) := by decide +kernel
theorem dX1_takeDigits_24 : decode cX1_takeDigits 24 = .ok (.ifCond .eq 47, 3) := by decide +kernel
theorem dX1_takeDigits_27 : decode cX1_takeDigits 27 = .ok (.aload_n 0, 1) := by decide +kernel
theorem dX1_takeDigits_28 : decode cX1_takeDigits 28 = .ok (.bipush 100, 2) := by decide +kernel
theorem dX1_takeDigits_30 : decode cX1_takeDigits 30 = .ok (.bipush 10, 2) := by decide +kernel
theorem dX1_takeDigits_32 : decode cX1_takeDigits 32 = .ok (.aload_n 0, 1) := by decide +kernel
theorem dX1_takeDigits_33 : decode cX1_takeDigits 33 = .ok (.getfield 57, 3) := by decide +kernel
theorem dX1_takeDigits_36 : decode cX1_takeDigits 36 = .ok (.imul, 1) := by decide +kernel
theorem dX1_takeDigits_37 : decode cX1_takeDigits 37 = .ok (.aload_n 0, 1) := by decide +kernel
theorem dX1_takeDigits_38 : decode cX1_takeDigits 38 = .ok (.aload_n 0, 1) := by decide +kernel
theorem dX1_takeDigits_39 : decode cX1_takeDigits 39 = .ok (.getfield 37, 3) := by decide +kernel
theorem dX1_takeDigits_42 : decode cX1_takeDigits 42 = .ok (.invokevirtual 87, 3) := by decide +kernel
theorem dX1_takeDigits_45 : decode cX1_takeDigits 45 = .ok (.iadd, 1) := by decide +kernel
theorem dX1_takeDigits_46 : decode cX1_takeDigits 46 = .ok (.bipush 48, 2) := by decide +kernel
theorem dX1_takeDigits_48 : decode cX1_takeDigits 48 = .ok (.isub, 1) := by decide +kernel
theorem dX1_takeDigits_49 : decode cX1_takeDigits 49 = .ok (.invokestatic 101, 3) := by decide +kernel
theorem dX1_takeDigits_52 : decode cX1_takeDigits 52 = .ok (.putfield 57, 3) := by decide +kernel
theorem dX1_takeDigits_55 : decode cX1_takeDigits 55 = .ok (.aload_n 0, 1) := by decide +kernel
theorem dX1_takeDigits_56 : decode cX1_takeDigits 56 = .ok (.dup, 1) := by decide +kernel
theorem dX1_takeDigits_57 : decode cX1_takeDigits 57 = .ok (.getfield 37, 3) := by decide +kernel
theorem dX1_takeDigits_60 : decode cX1_takeDigits 60 = .ok (.iconst 1, 1) := by decide +kernel
theorem dX1_takeDigits_61 : decode cX1_takeDigits 61 = .ok (.iadd, 1) := by decide +kernel
theorem dX1_takeDigits_62 : decode cX1_takeDigits 62 = .ok (.putfield 37, 3) := by decide +kernel
theorem dX1_takeDigits_65 : decode cX1_takeDigits 65 = .ok (.iinc 1 1, 3) := by decide +kernel
theorem dX1_takeDigits_68 : decode cX1_takeDigits 68 = .ok (.goto (-61), 3) := by decide +kernel
theorem dX1_takeDigits_71 : decode cX1_takeDigits 71 = .ok (.aload_n 0, 1) := by decide +kernel
theorem dX1_takeDigits_72 : decode cX1_takeDigits 72 = .ok (.aload_n 0, 1) := by decide +kernel
theorem dX1_takeDigits_73 : decode cX1_takeDigits 73 = .ok (.getfield 50, 3) := by decide +kernel
theorem dX1_takeDigits_76 : decode cX1_takeDigits 76 = .ok (.invokevirtual 87, 3) := by decide +kernel
theorem dX1_takeDigits_79 : decode cX1_takeDigits 79 = .ok (.bipush 48, 2) := by decide +kernel
theorem dX1_takeDigits_81 : decode cX1_takeDigits 81 = .ok (.if_icmp .ne 20, 3) := by decide +kernel
theorem dX1_takeDigits_84 : decode cX1_takeDigits 84 = .ok (.aload_n 0, 1) := by decide +kernel
theorem dX1_takeDigits_85 : decode cX1_takeDigits 85 = .ok (.getfield 37, 3) := by decide +kernel
theorem dX1_takeDigits_88 : decode cX1_takeDigits 88 = .ok (.aload_n 0, 1) := by decide +kernel
theorem dX1_takeDigits_89 : decode cX1_takeDigits 89 = .ok (.getfield 50, 3) := by decide +kernel
theorem dX1_takeDigits_92 : decode cX1_takeDigits 92 = .ok (.isub, 1) := by decide +kernel
theorem dX1_takeDigits_93 : decode cX1_takeDigits 93 = .ok (.iconst 1, 1) := by decide +kernel
theorem dX1_takeDigits_94 : decode cX1_takeDigits 94 = .ok (.if_icmp .le 7, 3) := by decide +kernel
theorem dX1_takeDigits_97 : decode cX1_takeDigits 97 = .ok (.iconst 1, 1) := by decide +kernel
theorem dX1_takeDigits_98 : decode cX1_takeDigits 98 = .ok (.goto 4, 3) := by decide +kernel
theorem dX1_takeDigits_101 : decode cX1_takeDigits 101 = .ok (.iconst 0, 1) := by decide +kernel
theorem dX1_takeDigits_102 : decode cX1_takeDigits 102 = .ok (.istore_n 1, 1) := by decide +kernel
theorem dX1_takeDigits_103 : decode cX1_takeDigits 103 = .ok (.aload_n 0, 1) := by decide +kernel
theorem dX1_takeDigits_104 : decode cX1_takeDigits 104 = .ok (.aload_n 0, 1) := by decide +kernel
theorem dX1_takeDigits_105 : decode cX1_takeDigits 105 = .ok (.getfield 57, 3) := by decide +kernel
theorem dX1_takeDigits_108 : decode cX1_takeDigits 108 = .ok (.bipush 99, 2) := by decide +kernel
theorem dX1_takeDigits_110 : decode cX1_takeDigits 110 = .ok (.if_icmp .gt 7, 3) := by decide +kernel
theorem dX1_takeDigits_113 : decode cX1_takeDigits 113 = .ok (.iload_n 1, 1) := by decide +kernel
theorem dX1_takeDigits_114 : decode cX1_takeDigits 114 = .ok (.ifCond .eq 7, 3) := by decide +kernel
theorem dX1_takeDigits_117 : decode cX1_takeDigits 117 = .ok (.iconst 2, 1) := by decide +kernel
theorem dX1_takeDigits_118 : decode cX1_takeDigits 118 = .ok (.goto 4, 3) := by decide +kernel
theorem dX1_takeDigits_121 : decode cX1_takeDigits 121 = .ok (.iconst 1, 1) := by decide +kernel
theorem dX1_takeDigits_122 : decode cX1_takeDigits 122 = .ok (.putfield 43, 3) := by decide +kernel
theorem dX1_takeDigits_125 : decode cX1_takeDigits 125 = .ok (.return_, 1) := by decide +kernel
theorem dX1_letterAt_0 : decode cX1_letterAt 0 = .ok (.iload_n 1, 1) := by decide +kernel
theorem dX1_letterAt_1 : decode cX1_letterAt 1 = .ok (.ifCond .lt 26, 3) := by decide +kernel
theorem dX1_letterAt_4 : decode cX1_letterAt 4 = .ok (.iload_n 1, 1) := by decide +kernel
theorem dX1_letterAt_5 : decode cX1_letterAt 5 = .ok (.bipush 120, 2) := by decide +kernel
theorem dX1_letterAt_7 : decode cX1_letterAt 7 = .ok (.if_icmp .ge 20, 3) := by decide +kernel
theorem dX1_letterAt_10 : decode cX1_letterAt 10 = .ok (.iload_n 1, 1) := by decide +kernel
theorem dX1_letterAt_11 : decode cX1_letterAt 11 = .ok (.aload_n 0, 1) := by decide +kernel
theorem dX1_letterAt_12 : decode cX1_letterAt 12 = .ok (.getfield 18, 3) := by decide +kernel
theorem dX1_letterAt_15 : decode cX1_letterAt 15 = .ok (.if_icmp .ge 12, 3) := by decide +kernel
theorem dX1_letterAt_18 : decode cX1_letterAt 18 = .ok (.aload_n 0, 1) := by decide +kernel
theorem dX1_letterAt_19 : decode cX1_letterAt 19 = .ok (.getfield 11, 3) := by decide +kernel
theorem dX1_letterAt_22 : decode cX1_letterAt 22 = .ok (.iload_n 1, 1) := by decide +kernel
theorem dX1_letterAt_23 : decode cX1_letterAt 23 = .ok (.iaload, 1) := by decide +kernel
theorem dX1_letterAt_24 : decode cX1_letterAt 24 = .ok (.goto 4, 3) := by decide +kernel
theorem dX1_letterAt_27 : decode cX1_letterAt 27 = .ok (.iconst 0, 1) := by decide +kernel
theorem dX1_letterAt_28 : decode cX1_letterAt 28 = .ok (.ireturn, 1) := by decide +kernel
theorem dX1_isDigit_0 : decode cX1_isDigit 0 = .ok (.iload_n 0, 1) := by decide +kernel
theorem dX1_isDigit_1 : decode cX1_isDigit 1 = .ok (.bipush 48, 2) := by decide +kernel
theorem dX1_isDigit_3 : decode cX1_isDigit 3 = .ok (.if_icmp .lt 13, 3) := by decide +kernel
theorem dX1_isDigit_6 : decode cX1_isDigit 6 = .ok (.iload_n 0, 1) := by decide +kernel
theorem dX1_isDigit_7 : decode cX1_isDigit 7 = .ok (.bipush 57, 2) := by decide +kernel
theorem dX1_isDigit_9 : decode cX1_isDigit 9 = .ok (.if_icmp .gt 7, 3) := by decide +kernel
theorem dX1_isDigit_12 : decode cX1_isDigit 12 = .ok (.iconst 1, 1) := by decide +kernel
theorem dX1_isDigit_13 : decode cX1_isDigit 13 = .ok (.goto 4, 3) := by decide +kernel
theorem dX1_isDigit_16 : decode cX1_isDigit 16 = .ok (.iconst 0, 1) := by decide +kernel
theorem dX1_isDigit_17 : decode cX1_isDigit 17 = .ok (.ireturn, 1) := by decide +kernel
theorem dX1_isSign_0 : decode cX1_isSign 0 = .ok (.iload_n 0, 1) := by decide +kernel
theorem dX1_isSign_1 : decode cX1_isSign 1 = .ok (.bipush 100, 2) := by decide +kernel
theorem dX1_isSign_3 : decode cX1_isSign 3 = .ok (.if_icmp .eq 27, 3) := by decide +kernel
theorem dX1_isSign_6 : decode cX1_isSign 6 = .ok (.iload_n 0, 1) := by decide +kernel
theorem dX1_isSign_7 : decode cX1_isSign 7 = .ok (.bipush 104, 2) := by decide +kernel
theorem dX1_isSign_9 : decode cX1_isSign 9 = .ok (.if_icmp .eq 21, 3) := by decide +kernel
theorem dX1_isSign_12 : decode cX1_isSign 12 = .ok (.iload_n 0, 1) := by decide +kernel
theorem dX1_isSign_13 : decode cX1_isSign 13 = .ok (.bipush 103, 2) := by decide +kernel
theorem dX1_isSign_15 : decode cX1_isSign 15 = .ok (.if_icmp .eq 15, 3) := by decide +kernel
theorem dX1_isSign_18 : decode cX1_isSign 18 = .ok (.iload_n 0, 1) := by decide +kernel
theorem dX1_isSign_19 : decode cX1_isSign 19 = .ok (.bipush 114, 2) := by decide +kernel
theorem dX1_isSign_21 : decode cX1_isSign 21 = .ok (.if_icmp .eq 9, 3) := by decide +kernel
theorem dX1_isSign_24 : decode cX1_isSign 24 = .ok (.iload_n 0, 1) := by decide +kernel
theorem dX1_isSign_25 : decode cX1_isSign 25 = .ok (.bipush 59, 2) := by decide +kernel
theorem dX1_isSign_27 : decode cX1_isSign 27 = .ok (.if_icmp .ne 7, 3) := by decide +kernel
theorem dX1_isSign_30 : decode cX1_isSign 30 = .ok (.iconst 1, 1) := by decide +kernel
theorem dX1_isSign_31 : decode cX1_isSign 31 = .ok (.goto 4, 3) := by decide +kernel
theorem dX1_isSign_34 : decode cX1_isSign 34 = .ok (.iconst 0, 1) := by decide +kernel
theorem dX1_isSign_35 : decode cX1_isSign 35 = .ok (.ireturn, 1) := by decide +kernel
theorem dX2_init_0 : decode cX2_init 0 = .ok (.aload_n 0, 1) := by decide +kernel
theorem dX2_init_1 : decode cX2_init 1 = .ok (.invokespecial 3, 3) := by decide +kernel
theorem dX2_init_4 : decode cX2_init 4 = .ok (.aload_n 0, 1) := by decide +kernel
theorem dX2_init_5 : decode cX2_init 5 = .ok (.bipush 6, 2) := by decide +kernel
theorem dX2_init_7 : decode cX2_init 7 = .ok (.newarray .int, 2) := by decide +kernel
theorem dX2_init_9 : decode cX2_init 9 = .ok (.putfield 9, 3) := by decide +kernel
theorem dX2_init_12 : decode cX2_init 12 = .ok (.aload_n 0, 1) := by decide +kernel
theorem dX2_init_13 : decode cX2_init 13 = .ok (.bipush 6, 2) := by decide +kernel
theorem dX2_init_15 : decode cX2_init 15 = .ok (.newarray .int, 2) := by decide +kernel
theorem dX2_init_17 : decode cX2_init 17 = .ok (.putfield 15, 3) := by decide +kernel
theorem dX2_init_20 : decode cX2_init 20 = .ok (.aload_n 0, 1) := by decide +kernel
theorem dX2_init_21 : decode cX2_init 21 = .ok (.bipush 6, 2) := by decide +kernel
theorem dX2_init_23 : decode cX2_init 23 = .ok (.newarray .int, 2) := by decide +kernel
theorem dX2_init_25 : decode cX2_init 25 = .ok (.putfield 18, 3) := by decide +kernel
theorem dX2_init_28 : decode cX2_init 28 = .ok (.aload_n 0, 1) := by decide +kernel
theorem dX2_init_29 : decode cX2_init 29 = .ok (.bipush 6, 2) := by decide +kernel
theorem dX2_init_31 : decode cX2_init 31 = .ok (.newarray .int, 2) := by decide +kernel
theorem dX2_init_33 : decode cX2_init 33 = .ok (.putfield 21, 3) := by decide +kernel
theorem dX2_init_36 : decode cX2_init 36 = .ok (.return_, 1) := by decide +kernel
theorem dX2_setAsAtFirst_0 : decode cX2_setAsAtFirst 0 = .ok (.aload_n 0, 1) := by decide +kernel
theorem dX2_setAsAtFirst_1 : decode cX2_setAsAtFirst 1 = .ok (.iconst 0, 1) := by decide +kernel
theorem dX2_setAsAtFirst_2 : decode cX2_setAsAtFirst 2 = .ok (.putfield 24, 3) := by decide +kernel
theorem dX2_setAsAtFirst_5 : decode cX2_setAsAtFirst 5 = .ok (.aload_n 0, 1) := by decide +kernel
theorem dX2_setAsAtFirst_6 : decode cX2_setAsAtFirst 6 = .ok (.iconst 3, 1) := by decide +kernel
theorem dX2_setAsAtFirst_7 : decode cX2_setAsAtFirst 7 = .ok (.putfield 28, 3) := by decide +kernel
theorem dX2_setAsAtFirst_10 : decode cX2_setAsAtFirst 10 = .ok (.aload_n 0, 1) := by decide +kernel
theorem dX2_setAsAtFirst_11 : decode cX2_setAsAtFirst 11 = .ok (.iconst 1, 1) := by decide +kernel
theorem dX2_setAsAtFirst_12 : decode cX2_setAsAtFirst 12 = .ok (.putfield 31, 3) := by decide +kernel
theorem dX2_setAsAtFirst_15 : decode cX2_setAsAtFirst 15 = .ok (.aload_n 0, 1) := by decide +kernel
theorem dX2_setAsAtFirst_16 : decode cX2_setAsAtFirst 16 = .ok (.bipush 20, 2) := by decide +kernel
theorem dX2_setAsAtFirst_18 : decode cX2_setAsAtFirst 18 = .ok (.putfield 34, 3) := by decide +kernel
theorem dX2_setAsAtFirst_21 : decode cX2_setAsAtFirst 21 = .ok (.return_, 1) := by decide +kernel
theorem dX2_copy_0 : decode cX2_copy 0 = .ok (.aload_n 0, 1) := by decide +kernel
theorem dX2_copy_1 : decode cX2_copy 1 = .ok (.aload_n 1, 1) := by decide +kernel
theorem dX2_copy_2 : decode cX2_copy 2 = .ok (.getfield 24, 3) := by decide +kernel
theorem dX2_copy_5 : decode cX2_copy 5 = .ok (.putfield 24, 3) := by decide +kernel
theorem dX2_copy_8 : decode cX2_copy 8 = .ok (.aload_n 0, 1) := by decide +kernel
theorem dX2_copy_9 : decode cX2_copy 9 = .ok (.aload_n 1, 1) := by decide +kernel
theorem dX2_copy_10 : decode cX2_copy 10 = .ok (.getfield 28, 3) := by decide +kernel
theorem dX2_copy_13 : decode cX2_copy 13 = .ok (.putfield 28, 3) := by decide +kernel
theorem dX2_copy_16 : decode cX2_copy 16 = .ok (.aload_n 0, 1) := by decide +kernel
theorem dX2_copy_17 : decode cX2_copy 17 = .ok (.aload_n 1, 1) := by decide +kernel
theorem dX2_copy_18 : decode cX2_copy 18 = .ok (.getfield 31, 3) := by decide +kernel
theorem dX2_copy_21 : decode cX2_copy 21 = .ok (.putfield 31, 3) := by decide +kernel
theorem dX2_copy_24 : decode cX2_copy 24 = .ok (.aload_n 0, 1) := by decide +kernel
theorem dX2_copy_25 : decode cX2_copy 25 = .ok (.aload_n 1, 1) := by decide +kernel
theorem dX2_copy_26 : decode cX2_copy 26 = .ok (.getfield 34, 3) := by decide +kernel
theorem dX2_copy_29 : decode cX2_copy 29 = .ok (.putfield 34, 3) := by decide +kernel
theorem dX2_copy_32 : decode cX2_copy 32 = .ok (.aload_n 1, 1) := by decide +kernel
theorem dX2_copy_33 : decode cX2_copy 33 = .ok (.getfield 9, 3) := by decide +kernel
theorem dX2_copy_36 : decode cX2_copy 36 = .ok (.iconst 0, 1) := by decide +kernel
theorem dX2_copy_37 : decode cX2_copy 37 = .ok (.aload_n 0, 1) := by decide +kernel
theorem dX2_copy_38 : decode cX2_copy 38 = .ok (.getfield 9, 3) := by decide +kernel
theorem dX2_copy_41 : decode cX2_copy 41 = .ok (.iconst 0, 1) := by decide +kernel
theorem dX2_copy_42 : decode cX2_copy 42 = .ok (.bipush 6, 2) := by decide +kernel
theorem dX2_copy_44 : decode cX2_copy 44 = .ok (.invokestatic 37, 3) := by decide +kernel
theorem dX2_copy_47 : decode cX2_copy 47 = .ok (.aload_n 1, 1) := by decide +kernel
theorem dX2_copy_48 : decode cX2_copy 48 = .ok (.getfield 15, 3) := by decide +kernel
theorem dX2_copy_51 : decode cX2_copy 51 = .ok (.iconst 0, 1) := by decide +kernel
theorem dX2_copy_52 : decode cX2_copy 52 = .ok (.aload_n 0, 1) := by decide +kernel
theorem dX2_copy_53 : decode cX2_copy 53 = .ok (.getfield 15, 3) := by decide +kernel
theorem dX2_copy_56 : decode cX2_copy 56 = .ok (.iconst 0, 1) := by decide +kernel
theorem dX2_copy_57 : decode cX2_copy 57 = .ok (.bipush 6, 2) := by decide +kernel
theorem dX2_copy_59 : decode cX2_copy 59 = .ok (.invokestatic 37, 3) := by decide +kernel
theorem dX2_copy_62 : decode cX2_copy 62 = .ok (.aload_n 1, 1) := by decide +kernel
theorem dX2_copy_63 : decode cX2_copy 63 = .ok (.getfield 18, 3) := by decide +kernel
theorem dX2_copy_66 : decode cX2_copy 66 = .ok (.iconst 0, 1) := by decide +kernel
theorem dX2_copy_67 : decode cX2_copy 67 = .ok (.aload_n 0, 1) := by decide +kernel
theorem dX2_copy_68 : decode cX2_copy 68 = .ok (.getfield 18, 3) := by decide +kernel
theorem dX2_copy_71 : decode cX2_copy 71 = .ok (.iconst 0, 1) := by decide +kernel
theorem dX2_copy_72 : decode cX2_copy 72 = .ok (.bipush 6, 2) := by decide +kernel
theorem dX2_copy_74 : decode cX2_copy 74 = .ok (.invokestatic 37, 3) := by decide +kernel
theorem dX2_copy_77 : decode cX2_copy 77 = .ok (.aload_n 1, 1) := by decide +kernel
theorem dX2_copy_78 : decode cX2_copy 78 = .ok (.getfield 21, 3) := by decide +kernel
theorem dX2_copy_81 : decode cX2_copy 81 = .ok (.iconst 0, 1) := by decide +kernel
theorem dX2_copy_82 : decode cX2_copy 82 = .ok (.aload_n 0, 1) := by decide +kernel
theorem dX2_copy_83 : decode cX2_copy 83 = .ok (.getfield 21, 3) := by decide +kernel
theorem dX2_copy_86 : decode cX2_copy 86 = .ok (.iconst 0, 1) := by decide +kernel
theorem dX2_copy_87 : decode cX2_copy 87 = .ok (.bipush 6, 2) := by decide +kernel
theorem dX2_copy_89 : decode cX2_copy 89 = .ok (.invokestatic 37, 3) := by decide +kernel
theorem dX2_copy_92 : decode cX2_copy 92 = .ok (.return_, 1) := by decide +kernel
theorem dX2_addDumpling_0 : decode cX2_addDumpling 0 = .ok (.aload_n 0, 1) := by decide +kernel
theorem dX2_addDumpling_1 : decode cX2_addDumpling 1 = .ok (.getfield 24, 3) := by decide +kernel
theorem dX2_addDumpling_4 : decode cX2_addDumpling 4 = .ok (.ifCond .lt 18, 3) := by decide +kernel
theorem dX2_addDumpling_7 : decode cX2_addDumpling 7 = .ok (.aload_n 0, 1) := by decide +kernel
theorem dX2_addDumpling_8 : decode cX2_addDumpling 8 = .ok (.getfield 24, 3) := by decide +kernel
theorem dX2_addDumpling_11 : decode cX2_addDumpling 11 = .ok (.bipush 6, 2) := by decide +kernel
theorem dX2_addDumpling_13 : decode cX2_addDumpling 13 = .ok (.if_icmp .ge 9, 3) := by decide +kernel
theorem dX2_addDumpling_16 : decode cX2_addDumpling 16 = .ok (.aload_n 1, 1) := by decide +kernel
theorem dX2_addDumpling_17 : decode cX2_addDumpling 17 = .ok (.arraylength, 1) := by decide +kernel
theorem dX2_addDumpling_18 : decode cX2_addDumpling 18 = .ok (.iconst 4, 1) := by decide +kernel
theorem dX2_addDumpling_19 : decode cX2_addDumpling 19 = .ok (.if_icmp .ge 4, 3) := by decide +kernel
theorem dX2_addDumpling_22 : decode cX2_addDumpling 22 = .ok (.return_, 1) := by decide +kernel
theorem dX2_addDumpling_23 : decode cX2_addDumpling 23 = .ok (.aload_n 0, 1) := by decide +kernel
theorem dX2_addDumpling_24 : decode cX2_addDumpling 24 = .ok (.getfield 9, 3) := by decide +kernel
theorem dX2_addDumpling_27 : decode cX2_addDumpling 27 = .ok (.aload_n 0, 1) := by decide +kernel
theorem dX2_addDumpling_28 : decode cX2_addDumpling 28 = .ok (.getfield 24, 3) := by decide +kernel
theorem dX2_addDumpling_31 : decode cX2_addDumpling 31 = .ok (.aload_n 1, 1) := by decide +kernel
theorem dX2_addDumpling_32 : decode cX2_addDumpling 32 = .ok (.iconst 0, 1) := by decide +kernel
theorem dX2_addDumpling_33 : decode cX2_addDumpling 33 = .ok (.iaload, 1) := by decide +kernel
theorem dX2_addDumpling_34 : decode cX2_addDumpling 34 = .ok (.iastore, 1) := by decide +kernel
theorem dX2_addDumpling_35 : decode cX2_addDumpling 35 = .ok (.aload_n 0, 1) := by decide +kernel
theorem dX2_addDumpling_36 : decode cX2_addDumpling 36 = .ok (.getfield 15, 3) := by decide +kernel
theorem dX2_addDumpling_39 : decode cX2_addDumpling 39 = .ok (.aload_n 0, 1) := by decide +kernel
theorem dX2_addDumpling_40 : decode cX2_addDumpling 40 = .ok (.getfield 24, 3) := by decide +kernel
theorem dX2_addDumpling_43 : decode cX2_addDumpling 43 = .ok (.aload_n 1, 1) := by decide +kernel
theorem dX2_addDumpling_44 : decode cX2_addDumpling 44 = .ok (.iconst 1, 1) := by decide +kernel
theorem dX2_addDumpling_45 : decode cX2_addDumpling 45 = .ok (.iaload, 1) := by decide +kernel
theorem dX2_addDumpling_46 : decode cX2_addDumpling 46 = .ok (.iastore, 1) := by decide +kernel
theorem dX2_addDumpling_47 : decode cX2_addDumpling 47 = .ok (.aload_n 0, 1) := by decide +kernel
theorem dX2_addDumpling_48 : decode cX2_addDumpling 48 = .ok (.getfield 18, 3) := by decide +kernel
theorem dX2_addDumpling_51 : decode cX2_addDumpling 51 = .ok (.aload_n 0, 1) := by decide +kernel
theorem dX2_addDumpling_52 : decode cX2_addDumpling 52 = .ok (.getfield 24, 3) := by decide +kernel
theorem dX2_addDumpling_55 : decode cX2_addDumpling 55 = .ok (.aload_n 1, 1) := by decide +kernel
theorem dX2_addDumpling_56 : decode cX2_addDumpling 56 = .ok (.iconst 2, 1) := by decide +kernel
theorem dX2_addDumpling_57 : decode cX2_addDumpling 57 = .ok (.iaload, 1) := by decide +kernel
theorem dX2_addDumpling_58 : decode cX2_addDumpling 58 = .ok (.iastore, 1) := by decide +kernel
theorem dX2_addDumpling_59 : decode cX2_addDumpling 59 = .ok (.aload_n 0, 1) := by decide +kernel
theorem dX2_addDumpling_60 : decode cX2_addDumpling 60 = .ok (.getfield 21, 3) := by decide +kernel
theorem dX2_addDumpling_63 : decode cX2_addDumpling 63 = .ok (.aload_n 0, 1) := by decide +kernel
theorem dX2_addDumpling_64 : decode cX2_addDumpling 64 = .ok (.getfield 24, 3) := by decide +kernel
theorem dX2_addDumpling_67 : decode cX2_addDumpling 67 = .ok (.aload_n 1, 1) := by decide +kernel
theorem dX2_addDumpling_68 : decode cX2_addDumpling 68 = .ok (.iconst 3, 1) := by decide +kernel
theorem dX2_addDumpling_69 : decode cX2_addDumpling 69 = .ok (.iaload, 1) := by decide +kernel
theorem dX2_addDumpling_70 : decode cX2_addDumpling 70 = .ok (.iastore, 1) := by decide +kernel
theorem dX2_addDumpling_71 : decode cX2_addDumpling 71 = .ok (.aload_n 0, 1) := by decide +kernel
theorem dX2_addDumpling_72 : decode cX2_addDumpling 72 = .ok (.dup, 1) := by decide +kernel
theorem dX2_addDumpling_73 : decode cX2_addDumpling 73 = .ok (.getfield 24, 3) := by decide +kernel
theorem dX2_addDumpling_76 : decode cX2_addDumpling 76 = .ok (.iconst 1, 1) := by decide +kernel
theorem dX2_addDumpling_77 : decode cX2_addDumpling 77 = .ok (.iadd, 1) := by decide +kernel
theorem dX2_addDumpling_78 : decode cX2_addDumpling 78 = .ok (.putfield 24, 3) := by decide +kernel
theorem dX2_addDumpling_81 : decode cX2_addDumpling 81 = .ok (.return_, 1) := by decide +kernel
theorem dX2_all_0 : decode cX2_all 0 = .ok (.iconst 1, 1) := by decide +kernel
theorem dX2_all_1 : decode cX2_all 1 = .ok (.aload_n 0, 1) := by decide +kernel
theorem dX2_all_2 : decode cX2_all 2 = .ok (.getfield 24, 3) := by decide +kernel
theorem dX2_all_5 : decode cX2_all 5 = .ok (.ishl, 1) := by decide +kernel
theorem dX2_all_6 : decode cX2_all 6 = .ok (.iconst 1, 1) := by decide +kernel
theorem dX2_all_7 : decode cX2_all 7 = .ok (.isub, 1) := by decide +kernel
theorem dX2_all_8 : decode cX2_all 8 = .ok (.ireturn, 1) := by decide +kernel
theorem dX2_seatsOf_0 : decode cX2_seatsOf 0 = .ok (.iconst 0, 1) := by decide +kernel
theorem dX2_seatsOf_1 : decode cX2_seatsOf 1 = .ok (.istore_n 2, 1) := by decide +kernel
theorem dX2_seatsOf_2 : decode cX2_seatsOf 2 = .ok (.iconst 0, 1) := by decide +kernel
theorem dX2_seatsOf_3 : decode cX2_seatsOf 3 = .ok (.istore_n 3, 1) := by decide +kernel
theorem dX2_seatsOf_4 : decode cX2_seatsOf 4 = .ok (.iload_n 3, 1) := by decide +kernel
theorem dX2_seatsOf_5 : decode cX2_seatsOf 5 = .ok (.bipush 6, 2) := by decide +kernel
theorem dX2_seatsOf_7 : decode cX2_seatsOf 7 = .ok (.if_icmp .ge 26, 3) := by decide +kernel
theorem dX2_seatsOf_10 : decode cX2_seatsOf 10 = .ok (.iload_n 1, 1) := by decide +kernel
theorem dX2_seatsOf_11 : decode cX2_seatsOf 11 = .ok (.iload_n 3, 1) := by decide +kernel
theorem dX2_seatsOf_12 : decode cX2_seatsOf 12 = .ok (.ishr, 1) := by decide +kernel
theorem dX2_seatsOf_13 : decode cX2_seatsOf 13 = .ok (.iconst 1, 1) := by decide +kernel
theorem dX2_seatsOf_14 : decode cX2_seatsOf 14 = .ok (.iand, 1) := by decide +kernel
theorem dX2_seatsOf_15 : decode cX2_seatsOf 15 = .ok (.ifCond .eq 12, 3) := by decide +kernel
theorem dX2_seatsOf_18 : decode cX2_seatsOf 18 = .ok (.iload_n 2, 1) := by decide +kernel
theorem dX2_seatsOf_19 : decode cX2_seatsOf 19 = .ok (.aload_n 0, 1) := by decide +kernel
theorem dX2_seatsOf_20 : decode cX2_seatsOf 20 = .ok (.getfield 21, 3) := by decide +kernel
theorem dX2_seatsOf_23 : decode cX2_seatsOf 23 = .ok (.iload_n 3, 1) := by decide +kernel
theorem dX2_seatsOf_24 : decode cX2_seatsOf 24 = .ok (.iaload, 1) := by decide +kernel
theorem dX2_seatsOf_25 : decode cX2_seatsOf 25 = .ok (.iadd, 1) := by decide +kernel
theorem dX2_seatsOf_26 : decode cX2_seatsOf 26 = .ok (.istore_n 2, 1) := by decide +kernel
theorem dX2_seatsOf_27 : decode cX2_seatsOf 27 = .ok (.iinc 3 1, 3) := by decide +kernel
theorem dX2_seatsOf_30 : decode cX2_seatsOf 30 = .ok (.goto (-26), 3) := by decide +kernel
theorem dX2_seatsOf_33 : decode cX2_seatsOf 33 = .ok (.iload_n 2, 1) := by decide +kernel
theorem dX2_seatsOf_34 : decode cX2_seatsOf 34 = .ok (.ireturn, 1) := by decide +kernel
theorem dX3_init_0 : decode cX3_init 0 = .ok (.aload_n 0, 1) := by decide +kernel
theorem dX3_init_1 : decode cX3_init 1 = .ok (.invokespecial 1, 3) := by decide +kernel
theorem dX3_init_4 : decode cX3_init 4 = .ok (.aload_n 0, 1) := by decide +kernel
theorem dX3_init_5 : decode cX3_init 5 = .ok (.bipush 6, 2) := by decide +kernel
theorem dX3_init_7 : decode cX3_init 7 = .ok (.newarray .int, 2) := by decide +kernel
theorem dX3_init_9 : decode cX3_init 9 = .ok (.putfield 9, 3) := by decide +kernel
theorem dX3_init_12 : decode cX3_init 12 = .ok (.aload_n 0, 1) := by decide +kernel
theorem dX3_init_13 : decode cX3_init 13 = .ok (.bipush 6, 2) := by decide +kernel
theorem dX3_init_15 : decode cX3_init 15 = .ok (.newarray .int, 2) := by decide +kernel
theorem dX3_init_17 : decode cX3_init 17 = .ok (.putfield 13, 3) := by decide +kernel
theorem dX3_init_20 : decode cX3_init 20 = .ok (.aload_n 0, 1) := by decide +kernel
theorem dX3_init_21 : decode cX3_init 21 = .ok (.bipush 6, 2) := by decide +kernel
theorem dX3_init_23 : decode cX3_init 23 = .ok (.newarray .int, 2) := by decide +kernel
theorem dX3_init_25 : decode cX3_init 25 = .ok (.putfield 16, 3) := by decide +kernel
theorem dX3_init_28 : decode cX3_init 28 = .ok (.return_, 1) := by decide +kernel
theorem dX3_add_0 : decode cX3_add 0 = .ok (.aload_n 0, 1) := by decide +kernel
theorem dX3_add_1 : decode cX3_add 1 = .ok (.getfield 19, 3) := by decide +kernel
theorem dX3_add_4 : decode cX3_add 4 = .ok (.ifCond .lt 12, 3) := by decide +kernel
theorem dX3_add_7 : decode cX3_add 7 = .ok (.aload_n 0, 1) := by decide +kernel
theorem dX3_add_8 : decode cX3_add 8 = .ok (.getfield 19, 3) := by decide +kernel
theorem dX3_add_11 : decode cX3_add 11 = .ok (.bipush 6, 2) := by decide +kernel
theorem dX3_add_13 : decode cX3_add 13 = .ok (.if_icmp .lt 5, 3) := by decide +kernel
theorem dX3_add_16 : decode cX3_add 16 = .ok (.iconst 0, 1) := by decide +kernel
theorem dX3_add_17 : decode cX3_add 17 = .ok (.ireturn, 1) := by decide +kernel
theorem dX3_add_18 : decode cX3_add 18 = .ok (.aload_n 0, 1) := by decide +kernel
theorem dX3_add_19 : decode cX3_add 19 = .ok (.getfield 9, 3) := by decide +kernel
theorem dX3_add_22 : decode cX3_add 22 = .ok (.aload_n 0, 1) := by decide +kernel
theorem dX3_add_23 : decode cX3_add 23 = .ok (.getfield 19, 3) := by decide +kernel
theorem dX3_add_26 : decode cX3_add 26 = .ok (.iload_n 1, 1) := by decide +kernel
theorem dX3_add_27 : decode cX3_add 27 = .ok (.iastore, 1) := by decide +kernel
theorem dX3_add_28 : decode cX3_add 28 = .ok (.aload_n 0, 1) := by decide +kernel
theorem dX3_add_29 : decode cX3_add 29 = .ok (.getfield 13, 3) := by decide +kernel
theorem dX3_add_32 : decode cX3_add 32 = .ok (.aload_n 0, 1) := by decide +kernel
theorem dX3_add_33 : decode cX3_add 33 = .ok (.getfield 19, 3) := by decide +kernel
theorem dX3_add_36 : decode cX3_add 36 = .ok (.iload_n 2, 1) := by decide +kernel
theorem dX3_add_37 : decode cX3_add 37 = .ok (.iastore, 1) := by decide +kernel
theorem dX3_add_38 : decode cX3_add 38 = .ok (.aload_n 0, 1) := by decide +kernel
theorem dX3_add_39 : decode cX3_add 39 = .ok (.getfield 16, 3) := by decide +kernel
theorem dX3_add_42 : decode cX3_add 42 = .ok (.aload_n 0, 1) := by decide +kernel
theorem dX3_add_43 : decode cX3_add 43 = .ok (.getfield 19, 3) := by decide +kernel
theorem dX3_add_46 : decode cX3_add 46 = .ok (.iload_n 3, 1) := by decide +kernel
theorem dX3_add_47 : decode cX3_add 47 = .ok (.iastore, 1) := by decide +kernel
theorem dX3_add_48 : decode cX3_add 48 = .ok (.aload_n 0, 1) := by decide +kernel
theorem dX3_add_49 : decode cX3_add 49 = .ok (.dup, 1) := by decide +kernel
theorem dX3_add_50 : decode cX3_add 50 = .ok (.getfield 19, 3) := by decide +kernel
theorem dX3_add_53 : decode cX3_add 53 = .ok (.iconst 1, 1) := by decide +kernel
theorem dX3_add_54 : decode cX3_add 54 = .ok (.iadd, 1) := by decide +kernel
theorem dX3_add_55 : decode cX3_add 55 = .ok (.putfield 19, 3) := by decide +kernel
theorem dX3_add_58 : decode cX3_add 58 = .ok (.iconst 1, 1) := by decide +kernel
theorem dX3_add_59 : decode cX3_add 59 = .ok (.ireturn, 1) := by decide +kernel
theorem dX4_init_0 : decode cX4_init 0 = .ok (.aload_n 0, 1) := by decide +kernel
theorem dX4_init_1 : decode cX4_init 1 = .ok (.invokespecial 3, 3) := by decide +kernel
theorem dX4_init_4 : decode cX4_init 4 = .ok (.aload_n 0, 1) := by decide +kernel
theorem dX4_init_5 : decode cX4_init 5 = .ok (.bipush 6, 2) := by decide +kernel
theorem dX4_init_7 : decode cX4_init 7 = .ok (.newarray .int, 2) := by decide +kernel
theorem dX4_init_9 : decode cX4_init 9 = .ok (.putfield 9, 3) := by decide +kernel
theorem dX4_init_12 : decode cX4_init 12 = .ok (.aload_n 0, 1) := by decide +kernel
theorem dX4_init_13 : decode cX4_init 13 = .ok (.bipush 6, 2) := by decide +kernel
theorem dX4_init_15 : decode cX4_init 15 = .ok (.newarray .int, 2) := by decide +kernel
theorem dX4_init_17 : decode cX4_init 17 = .ok (.putfield 15, 3) := by decide +kernel
theorem dX4_init_20 : decode cX4_init 20 = .ok (.aload_n 0, 1) := by decide +kernel
theorem dX4_init_21 : decode cX4_init 21 = .ok (.bipush 6, 2) := by decide +kernel
theorem dX4_init_23 : decode cX4_init 23 = .ok (.newarray .int, 2) := by decide +kernel
theorem dX4_init_25 : decode cX4_init 25 = .ok (.putfield 18, 3) := by decide +kernel
theorem dX4_init_28 : decode cX4_init 28 = .ok (.aload_n 0, 1) := by decide +kernel
theorem dX4_init_29 : decode cX4_init 29 = .ok (.bipush 6, 2) := by decide +kernel
theorem dX4_init_31 : decode cX4_init 31 = .ok (.newarray .int, 2) := by decide +kernel
theorem dX4_init_33 : decode cX4_init 33 = .ok (.putfield 21, 3) := by decide +kernel
theorem dX4_init_36 : decode cX4_init 36 = .ok (.return_, 1) := by decide +kernel
theorem dX4_begin_0 : decode cX4_begin 0 = .ok (.aload_n 0, 1) := by decide +kernel
theorem dX4_begin_1 : decode cX4_begin 1 = .ok (.iconst 0, 1) := by decide +kernel
theorem dX4_begin_2 : decode cX4_begin 2 = .ok (.putfield 24, 3) := by decide +kernel
theorem dX4_begin_5 : decode cX4_begin 5 = .ok (.aload_n 0, 1) := by decide +kernel
theorem dX4_begin_6 : decode cX4_begin 6 = .ok (.aload_n 1, 1) := by decide +kernel
theorem dX4_begin_7 : decode cX4_begin 7 = .ok (.getfield 28, 3) := by decide +kernel
theorem dX4_begin_10 : decode cX4_begin 10 = .ok (.putfield 33, 3) := by decide +kernel
theorem dX4_begin_13 : decode cX4_begin 13 = .ok (.iconst 0, 1) := by decide +kernel
theorem dX4_begin_14 : decode cX4_begin 14 = .ok (.istore_n 2, 1) := by decide +kernel
theorem dX4_begin_15 : decode cX4_begin 15 = .ok (.iload_n 2, 1) := by decide +kernel
theorem dX4_begin_16 : decode cX4_begin 16 = .ok (.bipush 6, 2) := by decide +kernel
theorem dX4_begin_18 : decode cX4_begin 18 = .ok (.if_icmp .ge 46, 3) := by decide +kernel
theorem dX4_begin_21 : decode cX4_begin 21 = .ok (.aload_n 0, 1) := by decide +kernel
theorem dX4_begin_22 : decode cX4_begin 22 = .ok (.getfield 9, 3) := by decide +kernel
theorem dX4_begin_25 : decode cX4_begin 25 = .ok (.iload_n 2, 1) := by decide +kernel
theorem dX4_begin_26 : decode cX4_begin 26 = .ok (.bipush (-9), 2) := by decide +kernel
theorem dX4_begin_28 : decode cX4_begin 28 = .ok (.iastore, 1) := by decide +kernel
theorem dX4_begin_29 : decode cX4_begin 29 = .ok (.aload_n 0, 1) := by decide +kernel
theorem dX4_begin_30 : decode cX4_begin 30 = .ok (.getfield 15, 3) := by decide +kernel
theorem dX4_begin_33 : decode cX4_begin 33 = .ok (.iload_n 2, 1) := by decide +kernel
theorem dX4_begin_34 : decode cX4_begin 34 = .ok (.aload_n 1, 1) := by decide +kernel
theorem dX4_begin_35 : decode cX4_begin 35 = .ok (.getfield 34, 3) := by decide +kernel
theorem dX4_begin_38 : decode cX4_begin 38 = .ok (.iload_n 2, 1) := by decide +kernel
theorem dX4_begin_39 : decode cX4_begin 39 = .ok (.iaload, 1) := by decide +kernel
theorem dX4_begin_40 : decode cX4_begin 40 = .ok (.iastore, 1) := by decide +kernel
theorem dX4_begin_41 : decode cX4_begin 41 = .ok (.aload_n 0, 1) := by decide +kernel
theorem dX4_begin_42 : decode cX4_begin 42 = .ok (.getfield 18, 3) := by decide +kernel
theorem dX4_begin_45 : decode cX4_begin 45 = .ok (.iload_n 2, 1) := by decide +kernel
theorem dX4_begin_46 : decode cX4_begin 46 = .ok (.iconst 1, 1) := by decide +kernel
theorem dX4_begin_47 : decode cX4_begin 47 = .ok (.iload_n 2, 1) := by decide +kernel
theorem dX4_begin_48 : decode cX4_begin 48 = .ok (.ishl, 1) := by decide +kernel
theorem dX4_begin_49 : decode cX4_begin 49 = .ok (.iastore, 1) := by decide +kernel
theorem dX4_begin_50 : decode cX4_begin 50 = .ok (.aload_n 0, 1) := by decide +kernel
theorem dX4_begin_51 : decode cX4_begin 51 = .ok (.getfield 21, 3) := by decide +kernel
theorem dX4_begin_54 : decode cX4_begin 54 = .ok (.iload_n 2, 1) := by decide +kernel
theorem dX4_begin_55 : decode cX4_begin 55 = .ok (.bipush (-9), 2) := by decide +kernel
theorem dX4_begin_57 : decode cX4_begin 57 = .ok (.iastore, 1) := by decide +kernel
theorem dX4_begin_58 : decode cX4_begin 58 = .ok (.iinc 2 1, 3) := by decide +kernel
theorem dX4_begin_61 : decode cX4_begin 61 = .ok (.goto (-46), 3) := by decide +kernel
theorem dX4_begin_64 : decode cX4_begin 64 = .ok (.return_, 1) := by decide +kernel
theorem dX4_copy_0 : decode cX4_copy 0 = .ok (.aload_n 0, 1) := by decide +kernel
theorem dX4_copy_1 : decode cX4_copy 1 = .ok (.aload_n 1, 1) := by decide +kernel
theorem dX4_copy_2 : decode cX4_copy 2 = .ok (.getfield 24, 3) := by decide +kernel
theorem dX4_copy_5 : decode cX4_copy 5 = .ok (.putfield 24, 3) := by decide +kernel
theorem dX4_copy_8 : decode cX4_copy 8 = .ok (.aload_n 0, 1) := by decide +kernel
theorem dX4_copy_9 : decode cX4_copy 9 = .ok (.aload_n 1, 1) := by decide +kernel
theorem dX4_copy_10 : decode cX4_copy 10 = .ok (.getfield 33, 3) := by decide +kernel
theorem dX4_copy_13 : decode cX4_copy 13 = .ok (.putfield 33, 3) := by decide +kernel
theorem dX4_copy_16 : decode cX4_copy 16 = .ok (.aload_n 1, 1) := by decide +kernel
theorem dX4_copy_17 : decode cX4_copy 17 = .ok (.getfield 9, 3) := by decide +kernel
theorem dX4_copy_20 : decode cX4_copy 20 = .ok (.iconst 0, 1) := by decide +kernel
theorem dX4_copy_21 : decode cX4_copy 21 = .ok (.aload_n 0, 1) := by decide +kernel
theorem dX4_copy_22 : decode cX4_copy 22 = .ok (.getfield 9, 3) := by decide +kernel
theorem dX4_copy_25 : decode cX4_copy 25 = .ok (.iconst 0, 1) := by decide +kernel
theorem dX4_copy_26 : decode cX4_copy 26 = .ok (.bipush 6, 2) := by decide +kernel
theorem dX4_copy_28 : decode cX4_copy 28 = .ok (.invokestatic 35, 3) := by decide +kernel
theorem dX4_copy_31 : decode cX4_copy 31 = .ok (.aload_n 1, 1) := by decide +kernel
theorem dX4_copy_32 : decode cX4_copy 32 = .ok (.getfield 15, 3) := by decide +kernel
theorem dX4_copy_35 : decode cX4_copy 35 = .ok (.iconst 0, 1) := by decide +kernel
theorem dX4_copy_36 : decode cX4_copy 36 = .ok (.aload_n 0, 1) := by decide +kernel
theorem dX4_copy_37 : decode cX4_copy 37 = .ok (.getfield 15, 3) := by decide +kernel
theorem dX4_copy_40 : decode cX4_copy 40 = .ok (.iconst 0, 1) := by decide +kernel
theorem dX4_copy_41 : decode cX4_copy 41 = .ok (.bipush 6, 2) := by decide +kernel
theorem dX4_copy_43 : decode cX4_copy 43 = .ok (.invokestatic 35, 3) := by decide +kernel
theorem dX4_copy_46 : decode cX4_copy 46 = .ok (.aload_n 1, 1) := by decide +kernel
theorem dX4_copy_47 : decode cX4_copy 47 = .ok (.getfield 18, 3) := by decide +kernel
theorem dX4_copy_50 : decode cX4_copy 50 = .ok (.iconst 0, 1) := by decide +kernel
theorem dX4_copy_51 : decode cX4_copy 51 = .ok (.aload_n 0, 1) := by decide +kernel
theorem dX4_copy_52 : decode cX4_copy 52 = .ok (.getfield 18, 3) := by decide +kernel
theorem dX4_copy_55 : decode cX4_copy 55 = .ok (.iconst 0, 1) := by decide +kernel
theorem dX4_copy_56 : decode cX4_copy 56 = .ok (.bipush 6, 2) := by decide +kernel
theorem dX4_copy_58 : decode cX4_copy 58 = .ok (.invokestatic 35, 3) := by decide +kernel
theorem dX4_copy_61 : decode cX4_copy 61 = .ok (.aload_n 1, 1) := by decide +kernel
theorem dX4_copy_62 : decode cX4_copy 62 = .ok (.getfield 21, 3) := by decide +kernel
theorem dX4_copy_65 : decode cX4_copy 65 = .ok (.iconst 0, 1) := by decide +kernel
theorem dX4_copy_66 : decode cX4_copy 66 = .ok (.aload_n 0, 1) := by decide +kernel
theorem dX4_copy_67 : decode cX4_copy 67 = .ok (.getfield 21, 3) := by decide +kernel
theorem dX4_copy_70 : decode cX4_copy 70 = .ok (.iconst 0, 1) := by decide +kernel
theorem dX4_copy_71 : decode cX4_copy 71 = .ok (.bipush 6, 2) := by decide +kernel
theorem dX4_copy_73 : decode cX4_copy 73 = .ok (.invokestatic 35, 3) := by decide +kernel
theorem dX4_copy_76 : decode cX4_copy 76 = .ok (.return_, 1) := by decide +kernel
theorem dX4_isDry_0 : decode cX4_isDry 0 = .ok (.aload_n 0, 1) := by decide +kernel
theorem dX4_isDry_1 : decode cX4_isDry 1 = .ok (.getfield 9, 3) := by decide +kernel
theorem dX4_isDry_4 : decode cX4_isDry 4 = .ok (.iload_n 1, 1) := by decide +kernel
theorem dX4_isDry_5 : decode cX4_isDry 5 = .ok (.iaload, 1) := by decide +kernel
theorem dX4_isDry_6 : decode cX4_isDry 6 = .ok (.bipush (-9), 2) := by decide +kernel
theorem dX4_isDry_8 : decode cX4_isDry 8 = .ok (.if_icmp .ne 7, 3) := by decide +kernel
theorem dX4_isDry_11 : decode cX4_isDry 11 = .ok (.iconst 1, 1) := by decide +kernel
theorem dX4_isDry_12 : decode cX4_isDry 12 = .ok (.goto 4, 3) := by decide +kernel
theorem dX4_isDry_15 : decode cX4_isDry 15 = .ok (.iconst 0, 1) := by decide +kernel
theorem dX4_isDry_16 : decode cX4_isDry 16 = .ok (.ireturn, 1) := by decide +kernel
theorem dX4_hasRisen_0 : decode cX4_hasRisen 0 = .ok (.aload_n 0, 1) := by decide +kernel
theorem dX4_hasRisen_1 : decode cX4_hasRisen 1 = .ok (.getfield 21, 3) := by decide +kernel
theorem dX4_hasRisen_4 : decode cX4_hasRisen 4 = .ok (.iload_n 1, 1) := by decide +kernel
theorem dX4_hasRisen_5 : decode cX4_hasRisen 5 = .ok (.iaload, 1) := by decide +kernel
theorem dX4_hasRisen_6 : decode cX4_hasRisen 6 = .ok (.bipush (-9), 2) := by decide +kernel
theorem dX4_hasRisen_8 : decode cX4_hasRisen 8 = .ok (.if_icmp .eq 7, 3) := by decide +kernel
theorem dX4_hasRisen_11 : decode cX4_hasRisen 11 = .ok (.iconst 1, 1) := by decide +kernel
theorem dX4_hasRisen_12 : decode cX4_hasRisen 12 = .ok (.goto 4, 3) := by decide +kernel
theorem dX4_hasRisen_15 : decode cX4_hasRisen 15 = .ok (.iconst 0, 1) := by decide +kernel
theorem dX4_hasRisen_16 : decode cX4_hasRisen 16 = .ok (.ireturn, 1) := by decide +kernel
theorem dX4_wetOnes_0 : decode cX4_wetOnes 0 = .ok (.iconst 0, 1) := by decide +kernel
theorem dX4_wetOnes_1 : decode cX4_wetOnes 1 = .ok (.istore_n 1, 1) := by decide +kernel
theorem dX4_wetOnes_2 : decode cX4_wetOnes 2 = .ok (.iconst 0, 1) := by decide +kernel
theorem dX4_wetOnes_3 : decode cX4_wetOnes 3 = .ok (.istore_n 2, 1) := by decide +kernel
theorem dX4_wetOnes_4 : decode cX4_wetOnes 4 = .ok (.iload_n 2, 1) := by decide +kernel
theorem dX4_wetOnes_5 : decode cX4_wetOnes 5 = .ok (.bipush 6, 2) := by decide +kernel
theorem dX4_wetOnes_7 : decode cX4_wetOnes 7 = .ok (.if_icmp .ge 23, 3) := by decide +kernel
theorem dX4_wetOnes_10 : decode cX4_wetOnes 10 = .ok (.aload_n 0, 1) := by decide +kernel
theorem dX4_wetOnes_11 : decode cX4_wetOnes 11 = .ok (.iload_n 2, 1) := by decide +kernel
theorem dX4_wetOnes_12 : decode cX4_wetOnes 12 = .ok (.invokevirtual 41, 3) := by decide +kernel
theorem dX4_wetOnes_15 : decode cX4_wetOnes 15 = .ok (.ifCond .ne 9, 3) := by decide +kernel
theorem dX4_wetOnes_18 : decode cX4_wetOnes 18 = .ok (.iload_n 1, 1) := by decide +kernel
theorem dX4_wetOnes_19 : decode cX4_wetOnes 19 = .ok (.iconst 1, 1) := by decide +kernel
theorem dX4_wetOnes_20 : decode cX4_wetOnes 20 = .ok (.iload_n 2, 1) := by decide +kernel
theorem dX4_wetOnes_21 : decode cX4_wetOnes 21 = .ok (.ishl, 1) := by decide +kernel
theorem dX4_wetOnes_22 : decode cX4_wetOnes 22 = .ok (.ior, 1) := by decide +kernel
theorem dX4_wetOnes_23 : decode cX4_wetOnes 23 = .ok (.istore_n 1, 1) := by decide +kernel
theorem dX4_wetOnes_24 : decode cX4_wetOnes 24 = .ok (.iinc 2 1, 3) := by decide +kernel
theorem dX4_wetOnes_27 : decode cX4_wetOnes 27 = .ok (.goto (-23), 3) := by decide +kernel
theorem dX4_wetOnes_30 : decode cX4_wetOnes 30 = .ok (.iload_n 1, 1) := by decide +kernel
theorem dX4_wetOnes_31 : decode cX4_wetOnes 31 = .ok (.ireturn, 1) := by decide +kernel
theorem dX4_upOnes_0 : decode cX4_upOnes 0 = .ok (.iconst 0, 1) := by decide +kernel
theorem dX4_upOnes_1 : decode cX4_upOnes 1 = .ok (.istore_n 1, 1) := by decide +kernel
theorem dX4_upOnes_2 : decode cX4_upOnes 2 = .ok (.iconst 0, 1) := by decide +kernel
theorem dX4_upOnes_3 : decode cX4_upOnes 3 = .ok (.istore_n 2, 1) := by decide +kernel
theorem dX4_upOnes_4 : decode cX4_upOnes 4 = .ok (.iload_n 2, 1) := by decide +kernel
theorem dX4_upOnes_5 : decode cX4_upOnes 5 = .ok (.bipush 6, 2) := by decide +kernel
theorem dX4_upOnes_7 : decode cX4_upOnes 7 = .ok (.if_icmp .ge 24, 3) := by decide +kernel
theorem dX4_upOnes_10 : decode cX4_upOnes 10 = .ok (.aload_n 0, 1) := by decide +kernel
theorem dX4_upOnes_11 : decode cX4_upOnes 11 = .ok (.getfield 9, 3) := by decide +kernel
theorem dX4_upOnes_14 : decode cX4_upOnes 14 = .ok (.iload_n 2, 1) := by decide +kernel
theorem dX4_upOnes_15 : decode cX4_upOnes 15 = .ok (.iaload, 1) := by decide +kernel
theorem dX4_upOnes_16 : decode cX4_upOnes 16 = .ok (.ifCond .ne 9, 3) := by decide +kernel
theorem dX4_upOnes_19 : decode cX4_upOnes 19 = .ok (.iload_n 1, 1) := by decide +kernel
theorem dX4_upOnes_20 : decode cX4_upOnes 20 = .ok (.iconst 1, 1) := by decide +kernel
theorem dX4_upOnes_21 : decode cX4_upOnes 21 = .ok (.iload_n 2, 1) := by decide +kernel
theorem dX4_upOnes_22 : decode cX4_upOnes 22 = .ok (.ishl, 1) := by decide +kernel
theorem dX4_upOnes_23 : decode cX4_upOnes 23 = .ok (.ior, 1) := by decide +kernel
theorem dX4_upOnes_24 : decode cX4_upOnes 24 = .ok (.istore_n 1, 1) := by decide +kernel
theorem dX4_upOnes_25 : decode cX4_upOnes 25 = .ok (.iinc 2 1, 3) := by decide +kernel
theorem dX4_upOnes_28 : decode cX4_upOnes 28 = .ok (.goto (-24), 3) := by decide +kernel
theorem dX4_upOnes_31 : decode cX4_upOnes 31 = .ok (.iload_n 1, 1) := by decide +kernel
theorem dX4_upOnes_32 : decode cX4_upOnes 32 = .ok (.ireturn, 1) := by decide +kernel
theorem dX4_risenOnes_0 : decode cX4_risenOnes 0 = .ok (.iconst 0, 1) := by decide +kernel
theorem dX4_risenOnes_1 : decode cX4_risenOnes 1 = .ok (.istore_n 1, 1) := by decide +kernel
theorem dX4_risenOnes_2 : decode cX4_risenOnes 2 = .ok (.iconst 0, 1) := by decide +kernel
theorem dX4_risenOnes_3 : decode cX4_risenOnes 3 = .ok (.istore_n 2, 1) := by decide +kernel
theorem dX4_risenOnes_4 : decode cX4_risenOnes 4 = .ok (.iload_n 2, 1) := by decide +kernel
theorem dX4_risenOnes_5 : decode cX4_risenOnes 5 = .ok (.bipush 6, 2) := by decide +kernel
theorem dX4_risenOnes_7 : decode cX4_risenOnes 7 = .ok (.if_icmp .ge 23, 3) := by decide +kernel
theorem dX4_risenOnes_10 : decode cX4_risenOnes 10 = .ok (.aload_n 0, 1) := by decide +kernel
theorem dX4_risenOnes_11 : decode cX4_risenOnes 11 = .ok (.iload_n 2, 1) := by decide +kernel
theorem dX4_risenOnes_12 : decode cX4_risenOnes 12 = .ok (.invokevirtual 45, 3) := by decide +kernel
theorem dX4_risenOnes_15 : decode cX4_risenOnes 15 = .ok (.ifCond .eq 9, 3) := by decide +kernel
theorem dX4_risenOnes_18 : decode cX4_risenOnes 18 = .ok (.iload_n 1, 1) := by decide +kernel
theorem dX4_risenOnes_19 : decode cX4_risenOnes 19 = .ok (.iconst 1, 1) := by decide +kernel
theorem dX4_risenOnes_20 : decode cX4_risenOnes 20 = .ok (.iload_n 2, 1) := by decide +kernel
theorem dX4_risenOnes_21 : decode cX4_risenOnes 21 = .ok (.ishl, 1) := by decide +kernel
theorem dX4_risenOnes_22 : decode cX4_risenOnes 22 = .ok (.ior, 1) := by decide +kernel
theorem dX4_risenOnes_23 : decode cX4_risenOnes 23 = .ok (.istore_n 1, 1) := by decide +kernel
theorem dX4_risenOnes_24 : decode cX4_risenOnes 24 = .ok (.iinc 2 1, 3) := by decide +kernel
theorem dX4_risenOnes_27 : decode cX4_risenOnes 27 = .ok (.goto (-23), 3) := by decide +kernel
theorem dX4_risenOnes_30 : decode cX4_risenOnes 30 = .ok (.iload_n 1, 1) := by decide +kernel
theorem dX4_risenOnes_31 : decode cX4_risenOnes 31 = .ok (.ireturn, 1) := by decide +kernel
theorem dX4_risenAheadOf_0 : decode cX4_risenAheadOf 0 = .ok (.iconst 0, 1) := by decide +kernel
theorem dX4_risenAheadOf_1 : decode cX4_risenAheadOf 1 = .ok (.istore_n 2, 1) := by decide +kernel
theorem dX4_risenAheadOf_2 : decode cX4_risenAheadOf 2 = .ok (.iconst 0, 1) := by decide +kernel
theorem dX4_risenAheadOf_3 : decode cX4_risenAheadOf 3 = .ok (.istore_n 3, 1) := by decide +kernel
theorem dX4_risenAheadOf_4 : decode cX4_risenAheadOf 4 = .ok (.iload_n 3, 1) := by decide +kernel
theorem dX4_risenAheadOf_5 : decode cX4_risenAheadOf 5 = .ok (.bipush 6, 2) := by decide +kernel
theorem dX4_risenAheadOf_7 : decode cX4_risenAheadOf 7 = .ok (.if_icmp .ge 67, 3) := by decide +kernel
theorem dX4_risenAheadOf_10 : decode cX4_risenAheadOf 10 = .ok (.aload_n 0, 1) := by decide +kernel
theorem dX4_risenAheadOf_11 : decode cX4_risenAheadOf 11 = .ok (.getfield 21, 3) := by decide +kernel
theorem dX4_risenAheadOf_14 : decode cX4_risenAheadOf 14 = .ok (.iload_n 3, 1) := by decide +kernel
theorem dX4_risenAheadOf_15 : decode cX4_risenAheadOf 15 = .ok (.iaload, 1) := by decide +kernel
theorem dX4_risenAheadOf_16 : decode cX4_risenAheadOf 16 = .ok (.aload_n 0, 1) := by decide +kernel
theorem dX4_risenAheadOf_17 : decode cX4_risenAheadOf 17 = .ok (.getfield 21, 3) := by decide +kernel
theorem dX4_risenAheadOf_20 : decode cX4_risenAheadOf 20 = .ok (.iload_n 1, 1) := by decide +kernel
theorem dX4_risenAheadOf_21 : decode cX4_risenAheadOf 21 = .ok (.iaload, 1) := by decide +kernel
theorem dX4_risenAheadOf_22 : decode cX4_risenAheadOf 22 = .ok (.if_icmp .lt 23, 3) := by decide +kernel
theorem dX4_risenAheadOf_25 : decode cX4_risenAheadOf 25 = .ok (.aload_n 0, 1) := by decide +kernel
theorem dX4_risenAheadOf_26 : decode cX4_risenAheadOf 26 = .ok (.getfield 21, 3) := by decide +kernel
theorem dX4_risenAheadOf_29 : decode cX4_risenAheadOf 29 = .ok (.iload_n 3, 1) := by decide +kernel
theorem dX4_risenAheadOf_30 : decode cX4_risenAheadOf 30 = .ok (.iaload, 1) := by decide +kernel
theorem dX4_risenAheadOf_31 : decode cX4_risenAheadOf 31 = .ok (.aload_n 0, 1) := by decide +kernel
theorem dX4_risenAheadOf_32 : decode cX4_risenAheadOf 32 = .ok (.getfield 21, 3) := by decide +kernel
theorem dX4_risenAheadOf_35 : decode cX4_risenAheadOf 35 = .ok (.iload_n 1, 1) := by decide +kernel
theorem dX4_risenAheadOf_36 : decode cX4_risenAheadOf 36 = .ok (.iaload, 1) := by decide +kernel
theorem dX4_risenAheadOf_37 : decode cX4_risenAheadOf 37 = .ok (.if_icmp .ne 12, 3) := by decide +kernel
theorem dX4_risenAheadOf_40 : decode cX4_risenAheadOf 40 = .ok (.iload_n 3, 1) := by decide +kernel
theorem dX4_risenAheadOf_41 : decode cX4_risenAheadOf 41 = .ok (.iload_n 1, 1) := by decide +kernel
theorem dX4_risenAheadOf_42 : decode cX4_risenAheadOf 42 = .ok (.if_icmp .ge 7, 3) := by decide +kernel
theorem dX4_risenAheadOf_45 : decode cX4_risenAheadOf 45 = .ok (.iconst 1, 1) := by decide +kernel
theorem dX4_risenAheadOf_46 : decode cX4_risenAheadOf 46 = .ok (.goto 4, 3) := by decide +kernel
theorem dX4_risenAheadOf_49 : decode cX4_risenAheadOf 49 = .ok (.iconst 0, 1) := by decide +kernel
theorem dX4_risenAheadOf_50 : decode cX4_risenAheadOf 50 = .ok (.istore 4, 2) := by decide +kernel
theorem dX4_risenAheadOf_52 : decode cX4_risenAheadOf 52 = .ok (.aload_n 0, 1) := by decide +kernel
theorem dX4_risenAheadOf_53 : decode cX4_risenAheadOf 53 = .ok (.iload_n 3, 1) := by decide +kernel
theorem dX4_risenAheadOf_54 : decode cX4_risenAheadOf 54 = .ok (.invokevirtual 45, 3) := by decide +kernel
theorem dX4_risenAheadOf_57 : decode cX4_risenAheadOf 57 = .ok (.ifCond .eq 11, 3) := by decide +kernel
theorem dX4_risenAheadOf_60 : decode cX4_risenAheadOf 60 = .ok (.iload 4, 2) := by decide +kernel
theorem dX4_risenAheadOf_62 : decode cX4_risenAheadOf 62 = .ok (.ifCond .eq 6, 3) := by decide +kernel
theorem dX4_risenAheadOf_65 : decode cX4_risenAheadOf 65 = .ok (.iinc 2 1, 3) := by decide +kernel
theorem dX4_risenAheadOf_68 : decode cX4_risenAheadOf 68 = .ok (.iinc 3 1, 3) := by decide +kernel
theorem dX4_risenAheadOf_71 : decode cX4_risenAheadOf 71 = .ok (.goto (-67), 3) := by decide +kernel
theorem dX4_risenAheadOf_74 : decode cX4_risenAheadOf 74 = .ok (.iload_n 2, 1) := by decide +kernel
theorem dX4_risenAheadOf_75 : decode cX4_risenAheadOf 75 = .ok (.ireturn, 1) := by decide +kernel
theorem dX4_firstRisenNow_0 : decode cX4_firstRisenNow 0 = .ok (.iconst 0, 1) := by decide +kernel
theorem dX4_firstRisenNow_1 : decode cX4_firstRisenNow 1 = .ok (.istore_n 1, 1) := by decide +kernel
theorem dX4_firstRisenNow_2 : decode cX4_firstRisenNow 2 = .ok (.iload_n 1, 1) := by decide +kernel
theorem dX4_firstRisenNow_3 : decode cX4_firstRisenNow 3 = .ok (.bipush 6, 2) := by decide +kernel
theorem dX4_firstRisenNow_5 : decode cX4_firstRisenNow 5 = .ok (.if_icmp .ge 24, 3) := by decide +kernel
theorem dX4_firstRisenNow_8 : decode cX4_firstRisenNow 8 = .ok (.aload_n 0, 1) := by decide +kernel
theorem dX4_firstRisenNow_9 : decode cX4_firstRisenNow 9 = .ok (.getfield 21, 3) := by decide +kernel
theorem dX4_firstRisenNow_12 : decode cX4_firstRisenNow 12 = .ok (.iload_n 1, 1) := by decide +kernel
theorem dX4_firstRisenNow_13 : decode cX4_firstRisenNow 13 = .ok (.iaload, 1) := by decide +kernel
theorem dX4_firstRisenNow_14 : decode cX4_firstRisenNow 14 = .ok (.aload_n 0, 1) := by decide +kernel
theorem dX4_firstRisenNow_15 : decode cX4_firstRisenNow 15 = .ok (.getfield 24, 3) := by decide +kernel
theorem dX4_firstRisenNow_18 : decode cX4_firstRisenNow 18 = .ok (.if_icmp .ne 5, 3) := by decide +kernel
theorem dX4_firstRisenNow_21 : decode cX4_firstRisenNow 21 = .ok (.iload_n 1, 1) := by decide +kernel
theorem dX4_firstRisenNow_22 : decode cX4_firstRisenNow 22 = .ok (.ireturn, 1) := by decide +kernel
theorem dX4_firstRisenNow_23 : decode cX4_firstRisenNow 23 = .ok (.iinc 1 1, 3) := by decide +kernel
theorem dX4_firstRisenNow_26 : decode cX4_firstRisenNow 26 = .ok (.goto (-24), 3) := by decide +kernel
theorem dX4_firstRisenNow_29 : decode cX4_firstRisenNow 29 = .ok (.bipush (-9), 2) := by decide +kernel
theorem dX4_firstRisenNow_31 : decode cX4_firstRisenNow 31 = .ok (.ireturn, 1) := by decide +kernel
theorem dX4_sizeOf_0 : decode cX4_sizeOf 0 = .ok (.iconst 0, 1) := by decide +kernel
theorem dX4_sizeOf_1 : decode cX4_sizeOf 1 = .ok (.istore_n 2, 1) := by decide +kernel
theorem dX4_sizeOf_2 : decode cX4_sizeOf 2 = .ok (.iconst 0, 1) := by decide +kernel
theorem dX4_sizeOf_3 : decode cX4_sizeOf 3 = .ok (.istore_n 3, 1) := by decide +kernel
theorem dX4_sizeOf_4 : decode cX4_sizeOf 4 = .ok (.iload_n 3, 1) := by decide +kernel
theorem dX4_sizeOf_5 : decode cX4_sizeOf 5 = .ok (.bipush 6, 2) := by decide +kernel
theorem dX4_sizeOf_7 : decode cX4_sizeOf 7 = .ok (.if_icmp .ge 26, 3) := by decide +kernel
theorem dX4_sizeOf_10 : decode cX4_sizeOf 10 = .ok (.iload_n 1, 1) := by decide +kernel
theorem dX4_sizeOf_11 : decode cX4_sizeOf 11 = .ok (.iload_n 3, 1) := by decide +kernel
theorem dX4_sizeOf_12 : decode cX4_sizeOf 12 = .ok (.ishr, 1) := by decide +kernel
theorem dX4_sizeOf_13 : decode cX4_sizeOf 13 = .ok (.iconst 1, 1) := by decide +kernel
theorem dX4_sizeOf_14 : decode cX4_sizeOf 14 = .ok (.iand, 1) := by decide +kernel
theorem dX4_sizeOf_15 : decode cX4_sizeOf 15 = .ok (.ifCond .eq 12, 3) := by decide +kernel
theorem dX4_sizeOf_18 : decode cX4_sizeOf 18 = .ok (.iload_n 2, 1) := by decide +kernel
theorem dX4_sizeOf_19 : decode cX4_sizeOf 19 = .ok (.aload_n 0, 1) := by decide +kernel
theorem dX4_sizeOf_20 : decode cX4_sizeOf 20 = .ok (.getfield 15, 3) := by decide +kernel
theorem dX4_sizeOf_23 : decode cX4_sizeOf 23 = .ok (.iload_n 3, 1) := by decide +kernel
theorem dX4_sizeOf_24 : decode cX4_sizeOf 24 = .ok (.iaload, 1) := by decide +kernel
theorem dX4_sizeOf_25 : decode cX4_sizeOf 25 = .ok (.iadd, 1) := by decide +kernel
theorem dX4_sizeOf_26 : decode cX4_sizeOf 26 = .ok (.istore_n 2, 1) := by decide +kernel
theorem dX4_sizeOf_27 : decode cX4_sizeOf 27 = .ok (.iinc 3 1, 3) := by decide +kernel
theorem dX4_sizeOf_30 : decode cX4_sizeOf 30 = .ok (.goto (-26), 3) := by decide +kernel
theorem dX4_sizeOf_33 : decode cX4_sizeOf 33 = .ok (.iload_n 2, 1) := by decide +kernel
theorem dX4_sizeOf_34 : decode cX4_sizeOf 34 = .ok (.ireturn, 1) := by decide +kernel
theorem dX4_drop_0 : decode cX4_drop 0 = .ok (.aload_n 0, 1) := by decide +kernel
theorem dX4_drop_1 : decode cX4_drop 1 = .ok (.getfield 9, 3) := by decide +kernel
theorem dX4_drop_4 : decode cX4_drop 4 = .ok (.iload_n 1, 1) := by decide +kernel
theorem dX4_drop_5 : decode cX4_drop 5 = .ok (.bipush 10, 2) := by decide +kernel
theorem dX4_drop_7 : decode cX4_drop 7 = .ok (.iastore, 1) := by decide +kernel
theorem dX4_drop_8 : decode cX4_drop 8 = .ok (.return_, 1) := by decide +kernel
theorem dX4_skewer_0 : decode cX4_skewer 0 = .ok (.aload_n 0, 1) := by decide +kernel
theorem dX4_skewer_1 : decode cX4_skewer 1 = .ok (.getfield 18, 3) := by decide +kernel
theorem dX4_skewer_4 : decode cX4_skewer 4 = .ok (.iload_n 1, 1) := by decide +kernel
theorem dX4_skewer_5 : decode cX4_skewer 5 = .ok (.iaload, 1) := by decide +kernel
theorem dX4_skewer_6 : decode cX4_skewer 6 = .ok (.istore_n 2, 1) := by decide +kernel
theorem dX4_skewer_7 : decode cX4_skewer 7 = .ok (.iconst 0, 1) := by decide +kernel
theorem dX4_skewer_8 : decode cX4_skewer 8 = .ok (.istore_n 3, 1) := by decide +kernel
theorem dX4_skewer_9 : decode cX4_skewer 9 = .ok (.iload_n 3, 1) := by decide +kernel
theorem dX4_skewer_10 : decode cX4_skewer 10 = .ok (.bipush 6, 2) := by decide +kernel
theorem dX4_skewer_12 : decode cX4_skewer 12 = .ok (.if_icmp .ge 26, 3) := by decide +kernel
theorem dX4_skewer_15 : decode cX4_skewer 15 = .ok (.iload_n 2, 1) := by decide +kernel
theorem dX4_skewer_16 : decode cX4_skewer 16 = .ok (.iload_n 3, 1) := by decide +kernel
theorem dX4_skewer_17 : decode cX4_skewer 17 = .ok (.ishr, 1) := by decide +kernel
theorem dX4_skewer_18 : decode cX4_skewer 18 = .ok (.iconst 1, 1) := by decide +kernel
theorem dX4_skewer_19 : decode cX4_skewer 19 = .ok (.iand, 1) := by decide +kernel
theorem dX4_skewer_20 : decode cX4_skewer 20 = .ok (.ifCond .eq 12, 3) := by decide +kernel
theorem dX4_skewer_23 : decode cX4_skewer 23 = .ok (.aload_n 0, 1) := by decide +kernel
theorem dX4_skewer_24 : decode cX4_skewer 24 = .ok (.getfield 18, 3) := by decide +kernel
theorem dX4_skewer_27 : decode cX4_skewer 27 = .ok (.iload_n 3, 1) := by decide +kernel
theorem dX4_skewer_28 : decode cX4_skewer 28 = .ok (.iconst 1, 1) := by decide +kernel
theorem dX4_skewer_29 : decode cX4_skewer 29 = .ok (.iload_n 3, 1) := by decide +kernel
theorem dX4_skewer_30 : decode cX4_skewer 30 = .ok (.ishl, 1) := by decide +kernel
theorem dX4_skewer_31 : decode cX4_skewer 31 = .ok (.iastore, 1) := by decide +kernel
theorem dX4_skewer_32 : decode cX4_skewer 32 = .ok (.iinc 3 1, 3) := by decide +kernel
theorem dX4_skewer_35 : decode cX4_skewer 35 = .ok (.goto (-26), 3) := by decide +kernel
theorem dX4_skewer_38 : decode cX4_skewer 38 = .ok (.aload_n 0, 1) := by decide +kernel
theorem dX4_skewer_39 : decode cX4_skewer 39 = .ok (.getfield 15, 3) := by decide +kernel
theorem dX4_skewer_42 : decode cX4_skewer 42 = .ok (.iload_n 1, 1) := by decide +kernel
theorem dX4_skewer_43 : decode cX4_skewer 43 = .ok (.iconst 1, 1) := by decide +kernel
theorem dX4_skewer_44 : decode cX4_skewer 44 = .ok (.aload_n 0, 1) := by decide +kernel
theorem dX4_skewer_45 : decode cX4_skewer 45 = .ok (.getfield 15, 3) := by decide +kernel
theorem dX4_skewer_48 : decode cX4_skewer 48 = .ok (.iload_n 1, 1) := by decide +kernel
theorem dX4_skewer_49 : decode cX4_skewer 49 = .ok (.iaload, 1) := by decide +kernel
theorem dX4_skewer_50 : decode cX4_skewer 50 = .ok (.iconst 2, 1) := by decide +kernel
theorem dX4_skewer_51 : decode cX4_skewer 51 = .ok (.idiv, 1) := by decide +kernel
theorem dX4_skewer_52 : decode cX4_skewer 52 = .ok (.invokestatic 48, 3) := by decide +kernel
theorem dX4_skewer_55 : decode cX4_skewer 55 = .ok (.iastore, 1) := by decide +kernel
theorem dX4_skewer_56 : decode cX4_skewer 56 = .ok (.return_, 1) := by decide +kernel
theorem dX4_dip_0 : decode cX4_dip 0 = .ok (.iconst 0, 1) := by decide +kernel
theorem dX4_dip_1 : decode cX4_dip 1 = .ok (.istore_n 2, 1) := by decide +kernel
theorem dX4_dip_2 : decode cX4_dip 2 = .ok (.iload_n 2, 1) := by decide +kernel
theorem dX4_dip_3 : decode cX4_dip 3 = .ok (.bipush 6, 2) := by decide +kernel
theorem dX4_dip_5 : decode cX4_dip 5 = .ok (.if_icmp .ge 23, 3) := by decide +kernel
theorem dX4_dip_8 : decode cX4_dip 8 = .ok (.aload_n 0, 1) := by decide +kernel
theorem dX4_dip_9 : decode cX4_dip 9 = .ok (.getfield 18, 3) := by decide +kernel
theorem dX4_dip_12 : decode cX4_dip 12 = .ok (.iload_n 2, 1) := by decide +kernel
theorem dX4_dip_13 : decode cX4_dip 13 = .ok (.dup2, 1) := by decide +kernel
theorem dX4_dip_14 : decode cX4_dip 14 = .ok (.iaload, 1) := by decide +kernel
theorem dX4_dip_15 : decode cX4_dip 15 = .ok (.iconst 1, 1) := by decide +kernel
theorem dX4_dip_16 : decode cX4_dip 16 = .ok (.iload_n 1, 1) := by decide +kernel
theorem dX4_dip_17 : decode cX4_dip 17 = .ok (.ishl, 1) := by decide +kernel
theorem dX4_dip_18 : decode cX4_dip 18 = .ok (.iconst (-1), 1) := by decide +kernel
theorem dX4_dip_19 : decode cX4_dip 19 = .ok (.ixor, 1) := by decide +kernel
theorem dX4_dip_20 : decode cX4_dip 20 = .ok (.iand, 1) := by decide +kernel
theorem dX4_dip_21 : decode cX4_dip 21 = .ok (.iastore, 1) := by decide +kernel
theorem dX4_dip_22 : decode cX4_dip 22 = .ok (.iinc 2 1, 3) := by decide +kernel
theorem dX4_dip_25 : decode cX4_dip 25 = .ok (.goto (-23), 3) := by decide +kernel
theorem dX4_dip_28 : decode cX4_dip 28 = .ok (.aload_n 0, 1) := by decide +kernel
theorem dX4_dip_29 : decode cX4_dip 29 = .ok (.getfield 18, 3) := by decide +kernel
theorem dX4_dip_32 : decode cX4_dip 32 = .ok (.iload_n 1, 1) := by decide +kernel
theorem dX4_dip_33 : decode cX4_dip 33 = .ok (.iconst 1, 1) := by decide +kernel
theorem dX4_dip_34 : decode cX4_dip 34 = .ok (.iload_n 1, 1) := by decide +kernel
theorem dX4_dip_35 : decode cX4_dip 35 = .ok (.ishl, 1) := by decide +kernel
theorem dX4_dip_36 : decode cX4_dip 36 = .ok (.iastore, 1) := by decide +kernel
theorem dX4_dip_37 : decode cX4_dip 37 = .ok (.aload_n 0, 1) := by decide +kernel
theorem dX4_dip_38 : decode cX4_dip 38 = .ok (.getfield 9, 3) := by decide +kernel
theorem dX4_dip_41 : decode cX4_dip 41 = .ok (.iload_n 1, 1) := by decide +kernel
theorem dX4_dip_42 : decode cX4_dip 42 = .ok (.bipush (-9), 2) := by decide +kernel
theorem dX4_dip_44 : decode cX4_dip 44 = .ok (.iastore, 1) := by decide +kernel
theorem dX4_dip_45 : decode cX4_dip 45 = .ok (.return_, 1) := by decide +kernel
theorem dX4_passMinute_0 : decode cX4_passMinute 0 = .ok (.aload_n 0, 1) := by decide +kernel
theorem dX4_passMinute_1 : decode cX4_passMinute 1 = .ok (.dup, 1) := by decide +kernel
theorem dX4_passMinute_2 : decode cX4_passMinute 2 = .ok (.getfield 24, 3) := by decide +kernel
theorem dX4_passMinute_5 : decode cX4_passMinute 5 = .ok (.iconst 1, 1) := by decide +kernel
theorem dX4_passMinute_6 : decode cX4_passMinute 6 = .ok (.iadd, 1) := by decide +kernel
theorem dX4_passMinute_7 : decode cX4_passMinute 7 = .ok (.putfield 24, 3) := by decide +kernel
theorem dX4_passMinute_10 : decode cX4_passMinute 10 = .ok (.aload_n 0, 1) := by decide +kernel
theorem dX4_passMinute_11 : decode cX4_passMinute 11 = .ok (.aload_n 1, 1) := by decide +kernel
theorem dX4_passMinute_12 : decode cX4_passMinute 12 = .ok (.invokevirtual 54, 3) := by decide +kernel
theorem dX4_passMinute_15 : decode cX4_passMinute 15 = .ok (.aload_n 0, 1) := by decide +kernel
theorem dX4_passMinute_16 : decode cX4_passMinute 16 = .ok (.aload_n 1, 1) := by decide +kernel
theorem dX4_passMinute_17 : decode cX4_passMinute 17 = .ok (.invokevirtual 58, 3) := by decide +kernel
theorem dX4_passMinute_20 : decode cX4_passMinute 20 = .ok (.aload_n 0, 1) := by decide +kernel
theorem dX4_passMinute_21 : decode cX4_passMinute 21 = .ok (.aload_n 1, 1) := by decide +kernel
theorem dX4_passMinute_22 : decode cX4_passMinute 22 = .ok (.getfield 61, 3) := by decide +kernel
theorem dX4_passMinute_25 : decode cX4_passMinute 25 = .ok (.invokevirtual 64, 3) := by decide +kernel
theorem dX4_passMinute_28 : decode cX4_passMinute 28 = .ok (.iconst 0, 1) := by decide +kernel
theorem dX4_passMinute_29 : decode cX4_passMinute 29 = .ok (.istore_n 2, 1) := by decide +kernel
theorem dX4_passMinute_30 : decode cX4_passMinute 30 = .ok (.iload_n 2, 1) := by decide +kernel
theorem dX4_passMinute_31 : decode cX4_passMinute 31 = .ok (.bipush 6, 2) := by decide +kernel
theorem dX4_passMinute_33 : decode cX4_passMinute 33 = .ok (.if_icmp .ge 36, 3) := by decide +kernel
theorem dX4_passMinute_36 : decode cX4_passMinute 36 = .ok (.aload_n 0, 1) := by decide +kernel
theorem dX4_passMinute_37 : decode cX4_passMinute 37 = .ok (.getfield 9, 3) := by decide +kernel
theorem dX4_passMinute_40 : decode cX4_passMinute 40 = .ok (.iload_n 2, 1) := by decide +kernel
theorem dX4_passMinute_41 : decode cX4_passMinute 41 = .ok (.iaload, 1) := by decide +kernel
theorem dX4_passMinute_42 : decode cX4_passMinute 42 = .ok (.ifCond .ne 21, 3) := by decide +kernel
theorem dX4_passMinute_45 : decode cX4_passMinute 45 = .ok (.aload_n 0, 1) := by decide +kernel
theorem dX4_passMinute_46 : decode cX4_passMinute 46 = .ok (.iload_n 2, 1) := by decide +kernel
theorem dX4_passMinute_47 : decode cX4_passMinute 47 = .ok (.invokevirtual 45, 3) := by decide +kernel
theorem dX4_passMinute_50 : decode cX4_passMinute 50 = .ok (.ifCond .ne 13, 3) := by decide +kernel
theorem dX4_passMinute_53 : decode cX4_passMinute 53 = .ok (.aload_n 0, 1) := by decide +kernel
theorem dX4_passMinute_54 : decode cX4_passMinute 54 = .ok (.getfield 21, 3) := by decide +kernel
theorem dX4_passMinute_57 : decode cX4_passMinute 57 = .ok (.iload_n 2, 1) := by decide +kernel
theorem dX4_passMinute_58 : decode cX4_passMinute 58 = .ok (.aload_n 0, 1) := by decide +kernel
theorem dX4_passMinute_59 : decode cX4_passMinute 59 = .ok (.getfield 24, 3) := by decide +kernel
theorem dX4_passMinute_62 : decode cX4_passMinute 62 = .ok (.iastore, 1) := by decide +kernel
theorem dX4_passMinute_63 : decode cX4_passMinute 63 = .ok (.iinc 2 1, 3) := by decide +kernel
theorem dX4_passMinute_66 : decode cX4_passMinute 66 = .ok (.goto (-36), 3) := by decide +kernel
theorem dX4_passMinute_69 : decode cX4_passMinute 69 = .ok (.return_, 1) := by decide +kernel
theorem dX4_swell_0 : decode cX4_swell 0 = .ok (.iconst 0, 1) := by decide +kernel
theorem dX4_swell_1 : decode cX4_swell 1 = .ok (.istore_n 2, 1) := by decide +kernel
theorem dX4_swell_2 : decode cX4_swell 2 = .ok (.iload_n 2, 1) := by decide +kernel
theorem dX4_swell_3 : decode cX4_swell 3 = .ok (.bipush 6, 2) := by decide +kernel
theorem dX4_swell_5 : decode cX4_swell 5 = .ok (.if_icmp .ge 41, 3) := by decide +kernel
theorem dX4_swell_8 : decode cX4_swell 8 = .ok (.aload_n 0, 1) := by decide +kernel
theorem dX4_swell_9 : decode cX4_swell 9 = .ok (.iload_n 2, 1) := by decide +kernel
theorem dX4_swell_10 : decode cX4_swell 10 = .ok (.invokevirtual 41, 3) := by decide +kernel
theorem dX4_swell_13 : decode cX4_swell 13 = .ok (.ifCond .ne 27, 3) := by decide +kernel
theorem dX4_swell_16 : decode cX4_swell 16 = .ok (.aload_n 0, 1) := by decide +kernel
theorem dX4_swell_17 : decode cX4_swell 17 = .ok (.getfield 15, 3) := by decide +kernel
theorem dX4_swell_20 : decode cX4_swell 20 = .ok (.iload_n 2, 1) := by decide +kernel
theorem dX4_swell_21 : decode cX4_swell 21 = .ok (.bipush 30, 2) := by decide +kernel
theorem dX4_swell_23 : decode cX4_swell 23 = .ok (.aload_n 0, 1) := by decide +kernel
theorem dX4_swell_24 : decode cX4_swell 24 = .ok (.getfield 15, 3) := by decide +kernel
theorem dX4_swell_27 : decode cX4_swell 27 = .ok (.iload_n 2, 1) := by decide +kernel
theorem dX4_swell_28 : decode cX4_swell 28 = .ok (.iaload, 1) := by decide +kernel
theorem dX4_swell_29 : decode cX4_swell 29 = .ok (.aload_n 1, 1) := by decide +kernel
theorem dX4_swell_30 : decode cX4_swell 30 = .ok (.getfield 68, 3) := by decide +kernel
theorem dX4_swell_33 : decode cX4_swell 33 = .ok (.iload_n 2, 1) := by decide +kernel
theorem dX4_swell_34 : decode cX4_swell 34 = .ok (.iaload, 1) := by decide +kernel
theorem dX4_swell_35 : decode cX4_swell 35 = .ok (.iadd, 1) := by decide +kernel
theorem dX4_swell_36 : decode cX4_swell 36 = .ok (.invokestatic 70, 3) := by decide +kernel
theorem dX4_swell_39 : decode cX4_swell 39 = .ok (.iastore, 1) := by decide +kernel
theorem dX4_swell_40 : decode cX4_swell 40 = .ok (.iinc 2 1, 3) := by decide +kernel
theorem dX4_swell_43 : decode cX4_swell 43 = .ok (.goto (-41), 3) := by decide +kernel
theorem dX4_swell_46 : decode cX4_swell 46 = .ok (.return_, 1) := by decide +kernel
theorem dX4_moveLumps_0 : decode cX4_moveLumps 0 = .ok (.iconst 0, 1) := by decide +kernel
theorem dX4_moveLumps_1 : decode cX4_moveLumps 1 = .ok (.istore_n 2, 1) := by decide +kernel
theorem dX4_moveLumps_2 : decode cX4_moveLumps 2 = .ok (.iload_n 2, 1) := by decide +kernel
theorem dX4_moveLumps_3 : decode cX4_moveLumps 3 = .ok (.bipush 6, 2) := by decide +kernel
theorem dX4_moveLumps_5 : decode cX4_moveLumps 5 = .ok (.if_icmp .ge 43, 3) := by decide +kernel
theorem dX4_moveLumps_8 : decode cX4_moveLumps 8 = .ok (.aload_n 0, 1) := by decide +kernel
theorem dX4_moveLumps_9 : decode cX4_moveLumps 9 = .ok (.iload_n 2, 1) := by decide +kernel
theorem dX4_moveLumps_10 : decode cX4_moveLumps 10 = .ok (.invokevirtual 41, 3) := by decide +kernel
theorem dX4_moveLumps_13 : decode cX4_moveLumps 13 = .ok (.ifCond .ne 29, 3) := by decide +kernel
theorem dX4_moveLumps_16 : decode cX4_moveLumps 16 = .ok (.aload_n 0, 1) := by decide +kernel
theorem dX4_moveLumps_17 : decode cX4_moveLumps 17 = .ok (.getfield 9, 3) := by decide +kernel
theorem dX4_moveLumps_20 : decode cX4_moveLumps 20 = .ok (.iload_n 2, 1) := by decide +kernel
theorem dX4_moveLumps_21 : decode cX4_moveLumps 21 = .ok (.aload_n 0, 1) := by decide +kernel
theorem dX4_moveLumps_22 : decode cX4_moveLumps 22 = .ok (.getfield 9, 3) := by decide +kernel
theorem dX4_moveLumps_25 : decode cX4_moveLumps 25 = .ok (.iload_n 2, 1) := by decide +kernel
theorem dX4_moveLumps_26 : decode cX4_moveLumps 26 = .ok (.iaload, 1) := by decide +kernel
theorem dX4_moveLumps_27 : decode cX4_moveLumps 27 = .ok (.aload_n 0, 1) := by decide +kernel
theorem dX4_moveLumps_28 : decode cX4_moveLumps 28 = .ok (.aload_n 0, 1) := by decide +kernel
theorem dX4_moveLumps_29 : decode cX4_moveLumps 29 = .ok (.getfield 18, 3) := by decide +kernel
theorem dX4_moveLumps_32 : decode cX4_moveLumps 32 = .ok (.iload_n 2, 1) := by decide +kernel
theorem dX4_moveLumps_33 : decode cX4_moveLumps 33 = .ok (.iaload, 1) := by decide +kernel
theorem dX4_moveLumps_34 : decode cX4_moveLumps 34 = .ok (.aload_n 1, 1) := by decide +kernel
theorem dX4_moveLumps_35 : decode cX4_moveLumps 35 = .ok (.invokevirtual 73, 3) := by decide +kernel
theorem dX4_moveLumps_38 : decode cX4_moveLumps 38 = .ok (.invokestatic 77, 3) := by decide +kernel
theorem dX4_moveLumps_41 : decode cX4_moveLumps 41 = .ok (.iastore, 1) := by decide +kernel
theorem dX4_moveLumps_42 : decode cX4_moveLumps 42 = .ok (.iinc 2 1, 3) := by decide +kernel
theorem dX4_moveLumps_45 : decode cX4_moveLumps 45 = .ok (.goto (-43), 3) := by decide +kernel
theorem dX4_moveLumps_48 : decode cX4_moveLumps 48 = .ok (.return_, 1) := by decide +kernel
theorem dX4_liftOf_0 : decode cX4_liftOf 0 = .ok (.iconst 0, 1) := by decide +kernel
theorem dX4_liftOf_1 : decode cX4_liftOf 1 = .ok (.istore_n 3, 1) := by decide +kernel
theorem dX4_liftOf_2 : decode cX4_liftOf 2 = .ok (.iconst 0, 1) := by decide +kernel
theorem dX4_liftOf_3 : decode cX4_liftOf 3 = .ok (.istore 4, 2) := by decide +kernel
theorem dX4_liftOf_5 : decode cX4_liftOf 5 = .ok (.iload 4, 2) := by decide +kernel
theorem dX4_liftOf_7 : decode cX4_liftOf 7 = .ok (.bipush 6, 2) := by decide +kernel
theorem dX4_liftOf_9 : decode cX4_liftOf 9 = .ok (.if_icmp .ge 41, 3) := by decide +kernel
theorem dX4_liftOf_12 : decode cX4_liftOf 12 = .ok (.iload_n 1, 1) := by decide +kernel
theorem dX4_liftOf_13 : decode cX4_liftOf 13 = .ok (.iload 4, 2) := by decide +kernel
theorem dX4_liftOf_15 : decode cX4_liftOf 15 = .ok (.ishr, 1) := by decide +kernel
theorem dX4_liftOf_16 : decode cX4_liftOf 16 = .ok (.iconst 1, 1) := by decide +kernel
theorem dX4_liftOf_17 : decode cX4_liftOf 17 = .ok (.iand, 1) := by decide +kernel
theorem dX4_liftOf_18 : decode cX4_liftOf 18 = .ok (.ifCond .eq 26, 3) := by decide +kernel
theorem dX4_liftOf_21 : decode cX4_liftOf 21 = .ok (.iload_n 3, 1) := by decide +kernel
theorem dX4_liftOf_22 : decode cX4_liftOf 22 = .ok (.aload_n 0, 1) := by decide +kernel
theorem dX4_liftOf_23 : decode cX4_liftOf 23 = .ok (.getfield 15, 3) := by decide +kernel
theorem dX4_liftOf_26 : decode cX4_liftOf 26 = .ok (.iload 4, 2) := by decide +kernel
theorem dX4_liftOf_28 : decode cX4_liftOf 28 = .ok (.iaload, 1) := by decide +kernel
theorem dX4_liftOf_29 : decode cX4_liftOf 29 = .ok (.aload_n 0, 1) := by decide +kernel
theorem dX4_liftOf_30 : decode cX4_liftOf 30 = .ok (.getfield 33, 3) := by decide +kernel
theorem dX4_liftOf_33 : decode cX4_liftOf 33 = .ok (.iadd, 1) := by decide +kernel
theorem dX4_liftOf_34 : decode cX4_liftOf 34 = .ok (.aload_n 2, 1) := by decide +kernel
theorem dX4_liftOf_35 : decode cX4_liftOf 35 = .ok (.getfield 80, 3) := by decide +kernel
theorem dX4_liftOf_38 : decode cX4_liftOf 38 = .ok (.iload 4, 2) := by decide +kernel
theorem dX4_liftOf_40 : decode cX4_liftOf 40 = .ok (.iaload, 1) := by decide +kernel
theorem dX4_liftOf_41 : decode cX4_liftOf 41 = .ok (.isub, 1) := by decide +kernel
theorem dX4_liftOf_42 : decode cX4_liftOf 42 = .ok (.iadd, 1) := by decide +kernel
theorem dX4_liftOf_43 : decode cX4_liftOf 43 = .ok (.istore_n 3, 1) := by decide +kernel
theorem dX4_liftOf_44 : decode cX4_liftOf 44 = .ok (.iinc 4 1, 3) := by decide +kernel
theorem dX4_liftOf_47 : decode cX4_liftOf 47 = .ok (.goto (-42), 3) := by decide +kernel
theorem dX4_liftOf_50 : decode cX4_liftOf 50 = .ok (.iload_n 3, 1) := by decide +kernel
theorem dX4_liftOf_51 : decode cX4_liftOf 51 = .ok (.ireturn, 1) := by decide +kernel
theorem dX4_stick_0 : decode cX4_stick 0 = .ok (.iconst 0, 1) := by decide +kernel
theorem dX4_stick_1 : decode cX4_stick 1 = .ok (.istore_n 2, 1) := by decide +kernel
theorem dX4_stick_2 : decode cX4_stick 2 = .ok (.iload_n 2, 1) := by decide +kernel
theorem dX4_stick_3 : decode cX4_stick 3 = .ok (.bipush 6, 2) := by decide +kernel
theorem dX4_stick_5 : decode cX4_stick 5 = .ok (.if_icmp .ge 52, 3) := by decide +kernel
theorem dX4_stick_8 : decode cX4_stick 8 = .ok (.iload_n 2, 1) := by decide +kernel
theorem dX4_stick_9 : decode cX4_stick 9 = .ok (.iconst 1, 1) := by decide +kernel
theorem dX4_stick_10 : decode cX4_stick 10 = .ok (.iadd, 1) := by decide +kernel
theorem dX4_stick_11 : decode cX4_stick 11 = .ok (.istore_n 3, 1) := by decide +kernel
theorem dX4_stick_12 : decode cX4_stick 12 = .ok (.iload_n 3, 1) := by decide +kernel
theorem dX4_stick_13 : decode cX4_stick 13 = .ok (.bipush 6, 2) := by decide +kernel
theorem dX4_stick_15 : decode cX4_stick 15 = .ok (.if_icmp .ge 36, 3) := by decide +kernel
theorem dX4_stick_18 : decode cX4_stick 18 = .ok (.aload_n 0, 1) := by decide +kernel
theorem dX4_stick_19 : decode cX4_stick 19 = .ok (.iload_n 2, 1) := by decide +kernel
theorem dX4_stick_20 : decode cX4_stick 20 = .ok (.iload_n 3, 1) := by decide +kernel
theorem dX4_stick_21 : decode cX4_stick 21 = .ok (.iload_n 1, 1) := by decide +kernel
theorem dX4_stick_22 : decode cX4_stick 22 = .ok (.invokevirtual 83, 3) := by decide +kernel
theorem dX4_stick_25 : decode cX4_stick 25 = .ok (.ifCond .eq 20, 3) := by decide +kernel
theorem dX4_stick_28 : decode cX4_stick 28 = .ok (.aload_n 0, 1) := by decide +kernel
theorem dX4_stick_29 : decode cX4_stick 29 = .ok (.aload_n 0, 1) := by decide +kernel
theorem dX4_stick_30 : decode cX4_stick 30 = .ok (.getfield 18, 3) := by decide +kernel
theorem dX4_stick_33 : decode cX4_stick 33 = .ok (.iload_n 2, 1) := by decide +kernel
theorem dX4_stick_34 : decode cX4_stick 34 = .ok (.iaload, 1) := by decide +kernel
theorem dX4_stick_35 : decode cX4_stick 35 = .ok (.aload_n 0, 1) := by decide +kernel
theorem dX4_stick_36 : decode cX4_stick 36 = .ok (.getfield 18, 3) := by decide +kernel
theorem dX4_stick_39 : decode cX4_stick 39 = .ok (.iload_n 3, 1) := by decide +kernel
theorem dX4_stick_40 : decode cX4_stick 40 = .ok (.iaload, 1) := by decide +kernel
theorem dX4_stick_41 : decode cX4_stick 41 = .ok (.ior, 1) := by decide +kernel
theorem dX4_stick_42 : decode cX4_stick 42 = .ok (.invokevirtual 87, 3) := by decide +kernel
theorem dX4_stick_45 : decode cX4_stick 45 = .ok (.iinc 3 1, 3) := by decide +kernel
theorem dX4_stick_48 : decode cX4_stick 48 = .ok (.goto (-36), 3) := by decide +kernel
theorem dX4_stick_51 : decode cX4_stick 51 = .ok (.iinc 2 1, 3) := by decide +kernel
theorem dX4_stick_54 : decode cX4_stick 54 = .ok (.goto (-52), 3) := by decide +kernel
theorem dX4_stick_57 : decode cX4_stick 57 = .ok (.return_, 1) := by decide +kernel
theorem dX4_canStick_0 : decode cX4_canStick 0 = .ok (.aload_n 0, 1) := by decide +kernel
theorem dX4_canStick_1 : decode cX4_canStick 1 = .ok (.getfield 9, 3) := by decide +kernel
theorem dX4_canStick_4 : decode cX4_canStick 4 = .ok (.iload_n 1, 1) := by decide +kernel
theorem dX4_canStick_5 : decode cX4_canStick 5 = .ok (.iaload, 1) := by decide +kernel
theorem dX4_canStick_6 : decode cX4_canStick 6 = .ok (.iconst 1, 1) := by decide +kernel
theorem dX4_canStick_7 : decode cX4_canStick 7 = .ok (.if_icmp .lt 18, 3) := by decide +kernel
theorem dX4_canStick_10 : decode cX4_canStick 10 = .ok (.aload_n 0, 1) := by decide +kernel
theorem dX4_canStick_11 : decode cX4_canStick 11 = .ok (.getfield 9, 3) := by decide +kernel
theorem dX4_canStick_14 : decode cX4_canStick 14 = .ok (.iload_n 1, 1) := by decide +kernel
theorem dX4_canStick_15 : decode cX4_canStick 15 = .ok (.iaload, 1) := by decide +kernel
theorem dX4_canStick_16 : decode cX4_canStick 16 = .ok (.bipush 10, 2) := by decide +kernel
theorem dX4_canStick_18 : decode cX4_canStick 18 = .ok (.if_icmp .ge 7, 3) := by decide +kernel
theorem dX4_canStick_21 : decode cX4_canStick 21 = .ok (.iconst 1, 1) := by decide +kernel
theorem dX4_canStick_22 : decode cX4_canStick 22 = .ok (.goto 4, 3) := by decide +kernel
theorem dX4_canStick_25 : decode cX4_canStick 25 = .ok (.iconst 0, 1) := by decide +kernel
theorem dX4_canStick_26 : decode cX4_canStick 26 = .ok (.istore 4, 2) := by decide +kernel
theorem dX4_canStick_28 : decode cX4_canStick 28 = .ok (.iload 4, 2) := by decide +kernel
theorem dX4_canStick_30 : decode cX4_canStick 30 = .ok (.ifCond .eq 55, 3) := by decide +kernel
theorem dX4_canStick_33 : decode cX4_canStick 33 = .ok (.aload_n 0, 1) := by decide +kernel
theorem dX4_canStick_34 : decode cX4_canStick 34 = .ok (.getfield 9, 3) := by decide +kernel
theorem dX4_canStick_37 : decode cX4_canStick 37 = .ok (.iload_n 2, 1) := by decide +kernel
theorem dX4_canStick_38 : decode cX4_canStick 38 = .ok (.iaload, 1) := by decide +kernel
theorem dX4_canStick_39 : decode cX4_canStick 39 = .ok (.aload_n 0, 1) := by decide +kernel
theorem dX4_canStick_40 : decode cX4_canStick 40 = .ok (.getfield 9, 3) := by decide +kernel
theorem dX4_canStick_43 : decode cX4_canStick 43 = .ok (.iload_n 1, 1) := by decide +kernel
theorem dX4_canStick_44 : decode cX4_canStick 44 = .ok (.iaload, 1) := by decide +kernel
theorem dX4_canStick_45 : decode cX4_canStick 45 = .ok (.if_icmp .ne 40, 3) := by decide +kernel
theorem dX4_canStick_48 : decode cX4_canStick 48 = .ok (.aload_n 0, 1) := by decide +kernel
theorem dX4_canStick_49 : decode cX4_canStick 49 = .ok (.getfield 18, 3) := by decide +kernel
theorem dX4_canStick_52 : decode cX4_canStick 52 = .ok (.iload_n 1, 1) := by decide +kernel
theorem dX4_canStick_53 : decode cX4_canStick 53 = .ok (.iaload, 1) := by decide +kernel
theorem dX4_canStick_54 : decode cX4_canStick 54 = .ok (.iload_n 2, 1) := by decide +kernel
theorem dX4_canStick_55 : decode cX4_canStick 55 = .ok (.ishr, 1) := by decide +kernel
theorem dX4_canStick_56 : decode cX4_canStick 56 = .ok (.iconst 1, 1) := by decide +kernel
theorem dX4_canStick_57 : decode cX4_canStick 57 = .ok (.iand, 1) := by decide +kernel
theorem dX4_canStick_58 : decode cX4_canStick 58 = .ok (.ifCond .ne 27, 3) := by decide +kernel
theorem dX4_canStick_61 : decode cX4_canStick 61 = .ok (.aload_n 0, 1) := by decide +kernel
theorem dX4_canStick_62 : decode cX4_canStick 62 = .ok (.getfield 15, 3) := by decide +kernel
theorem dX4_canStick_65 : decode cX4_canStick 65 = .ok (.iload_n 1, 1) := by decide +kernel
theorem dX4_canStick_66 : decode cX4_canStick 66 = .ok (.iaload, 1) := by decide +kernel
theorem dX4_canStick_67 : decode cX4_canStick 67 = .ok (.aload_n 0, 1) := by decide +kernel
theorem dX4_canStick_68 : decode cX4_canStick 68 = .ok (.getfield 15, 3) := by decide +kernel
theorem dX4_canStick_71 : decode cX4_canStick 71 = .ok (.iload_n 2, 1) := by decide +kernel
theorem dX4_canStick_72 : decode cX4_canStick 72 = .ok (.iaload, 1) := by decide +kernel
theorem dX4_canStick_73 : decode cX4_canStick 73 = .ok (.isub, 1) := by decide +kernel
theorem dX4_canStick_74 : decode cX4_canStick 74 = .ok (.invokestatic 90, 3) := by decide +kernel
theorem dX4_canStick_77 : decode cX4_canStick 77 = .ok (.iload_n 3, 1) := by decide +kernel
theorem dX4_canStick_78 : decode cX4_canStick 78 = .ok (.if_icmp .gt 7, 3) := by decide +kernel
theorem dX4_canStick_81 : decode cX4_canStick 81 = .ok (.iconst 1, 1) := by decide +kernel
theorem dX4_canStick_82 : decode cX4_canStick 82 = .ok (.goto 4, 3) := by decide +kernel
theorem dX4_canStick_85 : decode cX4_canStick 85 = .ok (.iconst 0, 1) := by decide +kernel
theorem dX4_canStick_86 : decode cX4_canStick 86 = .ok (.ireturn, 1) := by decide +kernel
theorem dX4_join_0 : decode cX4_join 0 = .ok (.iconst 0, 1) := by decide +kernel
theorem dX4_join_1 : decode cX4_join 1 = .ok (.istore_n 2, 1) := by decide +kernel
theorem dX4_join_2 : decode cX4_join 2 = .ok (.iload_n 2, 1) := by decide +kernel
theorem dX4_join_3 : decode cX4_join 3 = .ok (.bipush 6, 2) := by decide +kernel
theorem dX4_join_5 : decode cX4_join 5 = .ok (.if_icmp .ge 24, 3) := by decide +kernel
theorem dX4_join_8 : decode cX4_join 8 = .ok (.iload_n 1, 1) := by decide +kernel
theorem dX4_join_9 : decode cX4_join 9 = .ok (.iload_n 2, 1) := by decide +kernel
theorem dX4_join_10 : decode cX4_join 10 = .ok (.ishr, 1) := by decide +kernel
theorem dX4_join_11 : decode cX4_join 11 = .ok (.iconst 1, 1) := by decide +kernel
theorem dX4_join_12 : decode cX4_join 12 = .ok (.iand, 1) := by decide +kernel
theorem dX4_join_13 : decode cX4_join 13 = .ok (.ifCond .eq 10, 3) := by decide +kernel
theorem dX4_join_16 : decode cX4_join 16 = .ok (.aload_n 0, 1) := by decide +kernel
theorem dX4_join_17 : decode cX4_join 17 = .ok (.getfield 18, 3) := by decide +kernel
theorem dX4_join_20 : decode cX4_join 20 = .ok (.iload_n 2, 1) := by decide +kernel
theorem dX4_join_21 : decode cX4_join 21 = .ok (.iload_n 1, 1) := by decide +kernel
theorem dX4_join_22 : decode cX4_join 22 = .ok (.iastore, 1) := by decide +kernel
theorem dX4_join_23 : decode cX4_join 23 = .ok (.iinc 2 1, 3) := by decide +kernel
theorem dX4_join_26 : decode cX4_join 26 = .ok (.goto (-24), 3) := by decide +kernel
theorem dX4_join_29 : decode cX4_join 29 = .ok (.return_, 1) := by decide +kernel
theorem dX5_init_0 : decode cX5_init 0 = .ok (.aload_n 0, 1) := by decide +kernel
theorem dX5_init_1 : decode cX5_init 1 = .ok (.invokespecial 3, 3) := by decide +kernel
theorem dX5_init_4 : decode cX5_init 4 = .ok (.aload_n 0, 1) := by decide +kernel
theorem dX5_init_5 : decode cX5_init 5 = .ok (.new 9, 3) := by decide +kernel
theorem dX5_init_8 : decode cX5_init 8 = .ok (.dup, 1) := by decide +kernel
theorem dX5_init_9 : decode cX5_init 9 = .ok (.invokespecial 11, 3) := by decide +kernel
theorem dX5_init_12 : decode cX5_init 12 = .ok (.putfield 12, 3) := by decide +kernel
theorem dX5_init_15 : decode cX5_init 15 = .ok (.aload_n 0, 1) := by decide +kernel
theorem dX5_init_16 : decode cX5_init 16 = .ok (.new 16, 3) := by decide +kernel
theorem dX5_init_19 : decode cX5_init 19 = .ok (.dup, 1) := by decide +kernel
theorem dX5_init_20 : decode cX5_init 20 = .ok (.invokespecial 18, 3) := by decide +kernel
theorem dX5_init_23 : decode cX5_init 23 = .ok (.putfield 19, 3) := by decide +kernel
theorem dX5_init_26 : decode cX5_init 26 = .ok (.aload_n 0, 1) := by decide +kernel
theorem dX5_init_27 : decode cX5_init 27 = .ok (.new 16, 3) := by decide +kernel
theorem dX5_init_30 : decode cX5_init 30 = .ok (.dup, 1) := by decide +kernel
theorem dX5_init_31 : decode cX5_init 31 = .ok (.invokespecial 18, 3) := by decide +kernel
theorem dX5_init_34 : decode cX5_init 34 = .ok (.putfield 23, 3) := by decide +kernel
theorem dX5_init_37 : decode cX5_init 37 = .ok (.aload_n 0, 1) := by decide +kernel
theorem dX5_init_38 : decode cX5_init 38 = .ok (.new 26, 3) := by decide +kernel
theorem dX5_init_41 : decode cX5_init 41 = .ok (.dup, 1) := by decide +kernel
theorem dX5_init_42 : decode cX5_init 42 = .ok (.invokespecial 28, 3) := by decide +kernel
theorem dX5_init_45 : decode cX5_init 45 = .ok (.putfield 29, 3) := by decide +kernel
theorem dX5_init_48 : decode cX5_init 48 = .ok (.aload_n 0, 1) := by decide +kernel
theorem dX5_init_49 : decode cX5_init 49 = .ok (.new 26, 3) := by decide +kernel
theorem dX5_init_52 : decode cX5_init 52 = .ok (.dup, 1) := by decide +kernel
theorem dX5_init_53 : decode cX5_init 53 = .ok (.invokespecial 28, 3) := by decide +kernel
theorem dX5_init_56 : decode cX5_init 56 = .ok (.putfield 33, 3) := by decide +kernel
theorem dX5_init_59 : decode cX5_init 59 = .ok (.aload_n 0, 1) := by decide +kernel
theorem dX5_init_60 : decode cX5_init 60 = .ok (.new 36, 3) := by decide +kernel
theorem dX5_init_63 : decode cX5_init 63 = .ok (.dup, 1) := by decide +kernel
theorem dX5_init_64 : decode cX5_init 64 = .ok (.invokespecial 38, 3) := by decide +kernel
theorem dX5_init_67 : decode cX5_init 67 = .ok (.putfield 39, 3) := by decide +kernel
theorem dX5_init_70 : decode cX5_init 70 = .ok (.aload_n 0, 1) := by decide +kernel
theorem dX5_init_71 : decode cX5_init 71 = .ok (.new 26, 3) := by decide +kernel
theorem dX5_init_74 : decode cX5_init 74 = .ok (.dup, 1) := by decide +kernel
theorem dX5_init_75 : decode cX5_init 75 = .ok (.invokespecial 28, 3) := by decide +kernel
theorem dX5_init_78 : decode cX5_init 78 = .ok (.putfield 43, 3) := by decide +kernel
theorem dX5_init_81 : decode cX5_init 81 = .ok (.aload_n 0, 1) := by decide +kernel
theorem dX5_init_82 : decode cX5_init 82 = .ok (.new 26, 3) := by decide +kernel
theorem dX5_init_85 : decode cX5_init 85 = .ok (.dup, 1) := by decide +kernel
theorem dX5_init_86 : decode cX5_init 86 = .ok (.invokespecial 28, 3) := by decide +kernel
theorem dX5_init_89 : decode cX5_init 89 = .ok (.putfield 46, 3) := by decide +kernel
theorem dX5_init_92 : decode cX5_init 92 = .ok (.aload_n 0, 1) := by decide +kernel
theorem dX5_init_93 : decode cX5_init 93 = .ok (.new 49, 3) := by decide +kernel
theorem dX5_init_96 : decode cX5_init 96 = .ok (.dup, 1) := by decide +kernel
theorem dX5_init_97 : decode cX5_init 97 = .ok (.invokespecial 51, 3) := by decide +kernel
theorem dX5_init_100 : decode cX5_init 100 = .ok (.putfield 52, 3) := by decide +kernel
theorem dX5_init_103 : decode cX5_init 103 = .ok (.aload_n 0, 1) := by decide +kernel
theorem dX5_init_104 : decode cX5_init 104 = .ok (.bipush 64, 2) := by decide +kernel
theorem dX5_init_106 : decode cX5_init 106 = .ok (.newarray .int, 2) := by decide +kernel
theorem dX5_init_108 : decode cX5_init 108 = .ok (.putfield 56, 3) := by decide +kernel
theorem dX5_init_111 : decode cX5_init 111 = .ok (.aload_n 0, 1) := by decide +kernel
theorem dX5_init_112 : decode cX5_init 112 = .ok (.bipush 11, 2) := by decide +kernel
theorem dX5_init_114 : decode cX5_init 114 = .ok (.newarray .int, 2) := by decide +kernel
theorem dX5_init_116 : decode cX5_init 116 = .ok (.putfield 60, 3) := by decide +kernel
theorem dX5_init_119 : decode cX5_init 119 = .ok (.aload_n 0, 1) := by decide +kernel
theorem dX5_init_120 : decode cX5_init 120 = .ok (.getfield 19, 3) := by decide +kernel
theorem dX5_init_123 : decode cX5_init 123 = .ok (.invokevirtual 63, 3) := by decide +kernel
theorem dX5_init_126 : decode cX5_init 126 = .ok (.aload_n 0, 1) := by decide +kernel
theorem dX5_init_127 : decode cX5_init 127 = .ok (.getfield 29, 3) := by decide +kernel
theorem dX5_init_130 : decode cX5_init 130 = .ok (.aload_n 0, 1) := by decide +kernel
theorem dX5_init_131 : decode cX5_init 131 = .ok (.getfield 19, 3) := by decide +kernel
theorem dX5_init_134 : decode cX5_init 134 = .ok (.invokevirtual 66, 3) := by decide +kernel
theorem dX5_init_137 : decode cX5_init 137 = .ok (.return_, 1) := by decide +kernel
theorem dX5_type_0 : decode cX5_type 0 = .ok (.iload_n 1, 1) := by decide +kernel
theorem dX5_type_1 : decode cX5_type 1 = .ok (.ifCond .lt 10, 3) := by decide +kernel
theorem dX5_type_4 : decode cX5_type 4 = .ok (.iload_n 1, 1) := by decide +kernel
theorem dX5_type_5 : decode cX5_type 5 = .ok (.sipush 255, 3) := by decide +kernel
theorem dX5_type_8 : decode cX5_type 8 = .ok (.if_icmp .le 5, 3) := by decide +kernel
theorem dX5_type_11 : decode cX5_type 11 = .ok (.iconst (-1), 1) := by decide +kernel
theorem dX5_type_12 : decode cX5_type 12 = .ok (.ireturn, 1) := by decide +kernel
theorem dX5_type_13 : decode cX5_type 13 = .ok (.aload_n 0, 1) := by decide +kernel
theorem dX5_type_14 : decode cX5_type 14 = .ok (.getfield 12, 3) := by decide +kernel
theorem dX5_type_17 : decode cX5_type 17 = .ok (.iload_n 1, 1) := by decide +kernel
theorem dX5_type_18 : decode cX5_type 18 = .ok (.invokevirtual 70, 3) := by decide +kernel
theorem dX5_type_21 : decode cX5_type 21 = .ok (.ifCond .eq 13, 3) := by decide +kernel
theorem dX5_type_24 : decode cX5_type 24 = .ok (.aload_n 0, 1) := by decide +kernel
theorem dX5_type_25 : decode cX5_type 25 = .ok (.getfield 12, 3) := by decide +kernel
theorem dX5_type_28 : decode cX5_type 28 = .ok (.getfield 74, 3) := by decide +kernel
theorem dX5_type_31 : decode cX5_type 31 = .ok (.goto 5, 3) := by decide +kernel
theorem dX5_type_34 : decode cX5_type 34 = .ok (.bipush (-3), 2) := by decide +kernel
theorem dX5_type_36 : decode cX5_type 36 = .ok (.ireturn, 1) := by decide +kernel
theorem dX5_clear_0 : decode cX5_clear 0 = .ok (.aload_n 0, 1) := by decide +kernel
theorem dX5_clear_1 : decode cX5_clear 1 = .ok (.getfield 12, 3) := by decide +kernel
theorem dX5_clear_4 : decode cX5_clear 4 = .ok (.getfield 74, 3) := by decide +kernel
theorem dX5_clear_7 : decode cX5_clear 7 = .ok (.istore_n 1, 1) := by decide +kernel
theorem dX5_clear_8 : decode cX5_clear 8 = .ok (.aload_n 0, 1) := by decide +kernel
theorem dX5_clear_9 : decode cX5_clear 9 = .ok (.getfield 12, 3) := by decide +kernel
theorem dX5_clear_12 : decode cX5_clear 12 = .ok (.iconst 0, 1) := by decide +kernel
theorem dX5_clear_13 : decode cX5_clear 13 = .ok (.putfield 74, 3) := by decide +kernel
theorem dX5_clear_16 : decode cX5_clear 16 = .ok (.iload_n 1, 1) := by decide +kernel
theorem dX5_clear_17 : decode cX5_clear 17 = .ok (.ireturn, 1) := by decide +kernel
theorem dX5_pot_0 : decode cX5_pot 0 = .ok (.aload_n 0, 1) := by decide +kernel
theorem dX5_pot_1 : decode cX5_pot 1 = .ok (.getfield 12, 3) := by decide +kernel
theorem dX5_pot_4 : decode cX5_pot 4 = .ok (.aload_n 0, 1) := by decide +kernel
theorem dX5_pot_5 : decode cX5_pot 5 = .ok (.getfield 23, 3) := by decide +kernel
theorem dX5_pot_8 : decode cX5_pot 8 = .ok (.invokevirtual 78, 3) := by decide +kernel
theorem dX5_pot_11 : decode cX5_pot 11 = .ok (.istore_n 1, 1) := by decide +kernel
theorem dX5_pot_12 : decode cX5_pot 12 = .ok (.iload_n 1, 1) := by decide +kernel
theorem dX5_pot_13 : decode cX5_pot 13 = .ok (.ifCond .ge 5, 3) := by decide +kernel
theorem dX5_pot_16 : decode cX5_pot 16 = .ok (.iload_n 1, 1) := by decide +kernel
theorem dX5_pot_17 : decode cX5_pot 17 = .ok (.ireturn, 1) := by decide +kernel
theorem dX5_pot_18 : decode cX5_pot 18 = .ok (.aload_n 0, 1) := by decide +kernel
theorem dX5_pot_19 : decode cX5_pot 19 = .ok (.getfield 19, 3) := by decide +kernel
theorem dX5_pot_22 : decode cX5_pot 22 = .ok (.aload_n 0, 1) := by decide +kernel
theorem dX5_pot_23 : decode cX5_pot 23 = .ok (.getfield 23, 3) := by decide +kernel
theorem dX5_pot_26 : decode cX5_pot 26 = .ok (.invokevirtual 82, 3) := by decide +kernel
theorem dX5_pot_29 : decode cX5_pot 29 = .ok (.aload_n 0, 1) := by decide +kernel
theorem dX5_pot_30 : decode cX5_pot 30 = .ok (.getfield 29, 3) := by decide +kernel
theorem dX5_pot_33 : decode cX5_pot 33 = .ok (.aload_n 0, 1) := by decide +kernel
theorem dX5_pot_34 : decode cX5_pot 34 = .ok (.getfield 19, 3) := by decide +kernel
theorem dX5_pot_37 : decode cX5_pot 37 = .ok (.invokevirtual 66, 3) := by decide +kernel
theorem dX5_pot_40 : decode cX5_pot 40 = .ok (.aload_n 0, 1) := by decide +kernel
theorem dX5_pot_41 : decode cX5_pot 41 = .ok (.getfield 12, 3) := by decide +kernel
theorem dX5_pot_44 : decode cX5_pot 44 = .ok (.iconst 0, 1) := by decide +kernel
theorem dX5_pot_45 : decode cX5_pot 45 = .ok (.putfield 74, 3) := by decide +kernel
theorem dX5_pot_48 : decode cX5_pot 48 = .ok (.aload_n 0, 1) := by decide +kernel
theorem dX5_pot_49 : decode cX5_pot 49 = .ok (.getfield 39, 3) := by decide +kernel
theorem dX5_pot_52 : decode cX5_pot 52 = .ok (.iconst 0, 1) := by decide +kernel
theorem dX5_pot_53 : decode cX5_pot 53 = .ok (.putfield 85, 3) := by decide +kernel
theorem dX5_pot_56 : decode cX5_pot 56 = .ok (.aload_n 0, 1) := by decide +kernel
theorem dX5_pot_57 : decode cX5_pot 57 = .ok (.iconst 0, 1) := by decide +kernel
theorem dX5_pot_58 : decode cX5_pot 58 = .ok (.putfield 88, 3) := by decide +kernel
theorem dX5_pot_61 : decode cX5_pot 61 = .ok (.aload_n 0, 1) := by decide +kernel
theorem dX5_pot_62 : decode cX5_pot 62 = .ok (.getfield 52, 3) := by decide +kernel
theorem dX5_pot_65 : decode cX5_pot 65 = .ok (.iconst 0, 1) := by decide +kernel
theorem dX5_pot_66 : decode cX5_pot 66 = .ok (.putfield 91, 3) := by decide +kernel
theorem dX5_pot_69 : decode cX5_pot 69 = .ok (.iload_n 1, 1) := by decide +kernel
theorem dX5_pot_70 : decode cX5_pot 70 = .ok (.ireturn, 1) := by decide +kernel
theorem dX5_dumpling_0 : decode cX5_dumpling 0 = .ok (.aload_n 0, 1) := by decide +kernel
theorem dX5_dumpling_1 : decode cX5_dumpling 1 = .ok (.iload_n 1, 1) := by decide +kernel
theorem dX5_dumpling_2 : decode cX5_dumpling 2 = .ok (.invokevirtual 92, 3) := by decide +kernel
theorem dX5_dumpling_5 : decode cX5_dumpling 5 = .ok (.ifCond .ne 5, 3) := by decide +kernel
theorem dX5_dumpling_8 : decode cX5_dumpling 8 = .ok (.iconst (-1), 1) := by decide +kernel
theorem dX5_dumpling_9 : decode cX5_dumpling 9 = .ok (.ireturn, 1) := by decide +kernel
theorem dX5_dumpling_10 : decode cX5_dumpling 10 = .ok (.iload_n 2, 1) := by decide +kernel
theorem dX5_dumpling_11 : decode cX5_dumpling 11 = .ok (.tableswitch 111 0 6 #[41, 51, 61, 71, 81, 91, 101], 41) := by decide +kernel
theorem dX5_dumpling_52 : decode cX5_dumpling 52 = .ok (.aload_n 0, 1) := by decide +kernel
theorem dX5_dumpling_53 : decode cX5_dumpling 53 = .ok (.getfield 19, 3) := by decide +kernel
theorem dX5_dumpling_56 : decode cX5_dumpling 56 = .ok (.getfield 95, 3) := by decide +kernel
theorem dX5_dumpling_59 : decode cX5_dumpling 59 = .ok (.iload_n 1, 1) := by decide +kernel
theorem dX5_dumpling_60 : decode cX5_dumpling 60 = .ok (.iaload, 1) := by decide +kernel
theorem dX5_dumpling_61 : decode cX5_dumpling 61 = .ok (.ireturn, 1) := by decide +kernel
theorem dX5_dumpling_62 : decode cX5_dumpling 62 = .ok (.aload_n 0, 1) := by decide +kernel
theorem dX5_dumpling_63 : decode cX5_dumpling 63 = .ok (.getfield 29, 3) := by decide +kernel
theorem dX5_dumpling_66 : decode cX5_dumpling 66 = .ok (.getfield 98, 3) := by decide +kernel
theorem dX5_dumpling_69 : decode cX5_dumpling 69 = .ok (.iload_n 1, 1) := by decide +kernel
theorem dX5_dumpling_70 : decode cX5_dumpling 70 = .ok (.iaload, 1) := by decide +kernel
theorem dX5_dumpling_71 : decode cX5_dumpling 71 = .ok (.ireturn, 1) := by decide +kernel
theorem dX5_dumpling_72 : decode cX5_dumpling 72 = .ok (.aload_n 0, 1) := by decide +kernel
theorem dX5_dumpling_73 : decode cX5_dumpling 73 = .ok (.getfield 19, 3) := by decide +kernel
theorem dX5_dumpling_76 : decode cX5_dumpling 76 = .ok (.getfield 101, 3) := by decide +kernel
theorem dX5_dumpling_79 : decode cX5_dumpling 79 = .ok (.iload_n 1, 1) := by decide +kernel
theorem dX5_dumpling_80 : decode cX5_dumpling 80 = .ok (.iaload, 1) := by decide +kernel
theorem dX5_dumpling_81 : decode cX5_dumpling 81 = .ok (.ireturn, 1) := by decide +kernel
theorem dX5_dumpling_82 : decode cX5_dumpling 82 = .ok (.aload_n 0, 1) := by decide +kernel
theorem dX5_dumpling_83 : decode cX5_dumpling 83 = .ok (.getfield 19, 3) := by decide +kernel
theorem dX5_dumpling_86 : decode cX5_dumpling 86 = .ok (.getfield 104, 3) := by decide +kernel
theorem dX5_dumpling_89 : decode cX5_dumpling 89 = .ok (.iload_n 1, 1) := by decide +kernel
theorem dX5_dumpling_90 : decode cX5_dumpling 90 = .ok (.iaload, 1) := by decide +kernel
theorem dX5_dumpling_91 : decode cX5_dumpling 91 = .ok (.ireturn, 1) := by decide +kernel
theorem dX5_dumpling_92 : decode cX5_dumpling 92 = .ok (.aload_n 0, 1) := by decide +kernel
theorem dX5_dumpling_93 : decode cX5_dumpling 93 = .ok (.getfield 29, 3) := by decide +kernel
theorem dX5_dumpling_96 : decode cX5_dumpling 96 = .ok (.getfield 107, 3) := by decide +kernel
theorem dX5_dumpling_99 : decode cX5_dumpling 99 = .ok (.iload_n 1, 1) := by decide +kernel
theorem dX5_dumpling_100 : decode cX5_dumpling 100 = .ok (.iaload, 1) := by decide +kernel
theorem dX5_dumpling_101 : decode cX5_dumpling 101 = .ok (.ireturn, 1) := by decide +kernel
theorem dX5_dumpling_102 : decode cX5_dumpling 102 = .ok (.aload_n 0, 1) := by decide +kernel
theorem dX5_dumpling_103 : decode cX5_dumpling 103 = .ok (.getfield 29, 3) := by decide +kernel
theorem dX5_dumpling_106 : decode cX5_dumpling 106 = .ok (.getfield 110, 3) := by decide +kernel
theorem dX5_dumpling_109 : decode cX5_dumpling 109 = .ok (.iload_n 1, 1) := by decide +kernel
theorem dX5_dumpling_110 : decode cX5_dumpling 110 = .ok (.iaload, 1) := by decide +kernel
theorem dX5_dumpling_111 : decode cX5_dumpling 111 = .ok (.ireturn, 1) := by decide +kernel
theorem dX5_dumpling_112 : decode cX5_dumpling 112 = .ok (.aload_n 0, 1) := by decide +kernel
theorem dX5_dumpling_113 : decode cX5_dumpling 113 = .ok (.getfield 29, 3) := by decide +kernel
theorem dX5_dumpling_116 : decode cX5_dumpling 116 = .ok (.getfield 113, 3) := by decide +kernel
theorem dX5_dumpling_119 : decode cX5_dumpling 119 = .ok (.iload_n 1, 1) := by decide +kernel
theorem dX5_dumpling_120 : decode cX5_dumpling 120 = .ok (.iaload, 1) := by decide +kernel
theorem dX5_dumpling_121 : decode cX5_dumpling 121 = .ok (.ireturn, 1) := by decide +kernel
theorem dX5_dumpling_122 : decode cX5_dumpling 122 = .ok (.iconst (-1), 1) := by decide +kernel
theorem dX5_dumpling_123 : decode cX5_dumpling 123 = .ok (.ireturn, 1) := by decide +kernel
theorem dX5_now_0 : decode cX5_now 0 = .ok (.iload_n 1, 1) := by decide +kernel
theorem dX5_now_1 : decode cX5_now 1 = .ok (.tableswitch 96 0 6 #[43, 51, 59, 64, 72, 83, 88], 43) := by decide +kernel
theorem dX5_now_44 : decode cX5_now 44 = .ok (.aload_n 0, 1) := by decide +kernel
theorem dX5_now_45 : decode cX5_now 45 = .ok (.getfield 29, 3) := by decide +kernel
theorem dX5_now_48 : decode cX5_now 48 = .ok (.getfield 116, 3) := by decide +kernel
theorem dX5_now_51 : decode cX5_now 51 = .ok (.ireturn, 1) := by decide +kernel
theorem dX5_now_52 : decode cX5_now 52 = .ok (.aload_n 0, 1) := by decide +kernel
theorem dX5_now_53 : decode cX5_now 53 = .ok (.getfield 29, 3) := by decide +kernel
theorem dX5_now_56 : decode cX5_now 56 = .ok (.getfield 119, 3) := by decide +kernel
theorem dX5_now_59 : decode cX5_now 59 = .ok (.ireturn, 1) := by decide +kernel
theorem dX5_now_60 : decode cX5_now 60 = .ok (.aload_n 0, 1) := by decide +kernel
theorem dX5_now_61 : decode cX5_now 61 = .ok (.invokevirtual 122, 3) := by decide +kernel
end
section
theorem dX5_now_64 : decode cX5_now 64 = .ok (.ireturn, 1) := by decide +kernel
theorem dX5_now_65 : decode cX5_now 65 = .ok (.aload_n 0, 1) := by decide +kernel
theorem dX5_now_66 : decode cX5_now 66 = .ok (.getfield 29, 3) := by decide +kernel
theorem dX5_now_69 : decode cX5_now 69 = .ok (.invokevirtual 126, 3) := by decide +kernel
theorem dX5_now_72 : decode cX5_now 72 = .ok (.ireturn, 1) := by decide +kernel
theorem dX5_now_73 : decode cX5_now 73 = .ok (.aload_n 0, 1) := by decide +kernel
theorem dX5_now_74 : decode cX5_now 74 = .ok (.getfield 29, 3) := by decide +kernel
theorem dX5_now_77 : decode cX5_now 77 = .ok (.invokevirtual 129, 3) := by decide +kernel
theorem dX5_now_80 : decode cX5_now 80 = .ok (.invokestatic 132, 3) := by decide +kernel
theorem dX5_now_83 : decode cX5_now 83 = .ok (.ireturn, 1) := by decide +kernel
theorem dX5_now_84 : decode cX5_now 84 = .ok (.aload_n 0, 1) := by decide +kernel
theorem dX5_now_85 : decode cX5_now 85 = .ok (.invokevirtual 138, 3) := by decide +kernel
theorem dX5_now_88 : decode cX5_now 88 = .ok (.ireturn, 1) := by decide +kernel
theorem dX5_now_89 : decode cX5_now 89 = .ok (.aload_n 0, 1) := by decide +kernel
theorem dX5_now_90 : decode cX5_now 90 = .ok (.getfield 39, 3) := by decide +kernel
theorem dX5_now_93 : decode cX5_now 93 = .ok (.getfield 85, 3) := by decide +kernel
theorem dX5_now_96 : decode cX5_now 96 = .ok (.ireturn, 1) := by decide +kernel
theorem dX5_now_97 : decode cX5_now 97 = .ok (.iconst (-1), 1) := by decide +kernel
theorem dX5_now_98 : decode cX5_now 98 = .ok (.ireturn, 1) := by decide +kernel
theorem dX5_order_0 : decode cX5_order 0 = .ok (.iload_n 1, 1) := by decide +kernel
theorem dX5_order_1 : decode cX5_order 1 = .ok (.ifCond .lt 9, 3) := by decide +kernel
theorem dX5_order_4 : decode cX5_order 4 = .ok (.iload_n 1, 1) := by decide +kernel
theorem dX5_order_5 : decode cX5_order 5 = .ok (.bipush 6, 2) := by decide +kernel
theorem dX5_order_7 : decode cX5_order 7 = .ok (.if_icmp .lt 5, 3) := by decide +kernel
theorem dX5_order_10 : decode cX5_order 10 = .ok (.iconst (-1), 1) := by decide +kernel
theorem dX5_order_11 : decode cX5_order 11 = .ok (.ireturn, 1) := by decide +kernel
theorem dX5_order_12 : decode cX5_order 12 = .ok (.iconst 0, 1) := by decide +kernel
theorem dX5_order_13 : decode cX5_order 13 = .ok (.istore_n 2, 1) := by decide +kernel
theorem dX5_order_14 : decode cX5_order 14 = .ok (.iload_n 2, 1) := by decide +kernel
theorem dX5_order_15 : decode cX5_order 15 = .ok (.bipush 6, 2) := by decide +kernel
theorem dX5_order_17 : decode cX5_order 17 = .ok (.if_icmp .ge 34, 3) := by decide +kernel
theorem dX5_order_20 : decode cX5_order 20 = .ok (.aload_n 0, 1) := by decide +kernel
theorem dX5_order_21 : decode cX5_order 21 = .ok (.getfield 29, 3) := by decide +kernel
theorem dX5_order_24 : decode cX5_order 24 = .ok (.iload_n 2, 1) := by decide +kernel
theorem dX5_order_25 : decode cX5_order 25 = .ok (.invokevirtual 141, 3) := by decide +kernel
theorem dX5_order_28 : decode cX5_order 28 = .ok (.ifCond .eq 17, 3) := by decide +kernel
theorem dX5_order_31 : decode cX5_order 31 = .ok (.aload_n 0, 1) := by decide +kernel
theorem dX5_order_32 : decode cX5_order 32 = .ok (.getfield 29, 3) := by decide +kernel
theorem dX5_order_35 : decode cX5_order 35 = .ok (.iload_n 2, 1) := by decide +kernel
theorem dX5_order_36 : decode cX5_order 36 = .ok (.invokevirtual 144, 3) := by decide +kernel
theorem dX5_order_39 : decode cX5_order 39 = .ok (.iload_n 1, 1) := by decide +kernel
theorem dX5_order_40 : decode cX5_order 40 = .ok (.if_icmp .ne 5, 3) := by decide +kernel
theorem dX5_order_43 : decode cX5_order 43 = .ok (.iload_n 2, 1) := by decide +kernel
theorem dX5_order_44 : decode cX5_order 44 = .ok (.ireturn, 1) := by decide +kernel
theorem dX5_order_45 : decode cX5_order 45 = .ok (.iinc 2 1, 3) := by decide +kernel
theorem dX5_order_48 : decode cX5_order 48 = .ok (.goto (-34), 3) := by decide +kernel
theorem dX5_order_51 : decode cX5_order 51 = .ok (.bipush (-9), 2) := by decide +kernel
theorem dX5_order_53 : decode cX5_order 53 = .ok (.ireturn, 1) := by decide +kernel
theorem dX5_drops_0 : decode cX5_drops 0 = .ok (.aload_n 0, 1) := by decide +kernel
theorem dX5_drops_1 : decode cX5_drops 1 = .ok (.iload_n 1, 1) := by decide +kernel
theorem dX5_drops_2 : decode cX5_drops 2 = .ok (.invokevirtual 92, 3) := by decide +kernel
theorem dX5_drops_5 : decode cX5_drops 5 = .ok (.ifCond .ne 5, 3) := by decide +kernel
theorem dX5_drops_8 : decode cX5_drops 8 = .ok (.iconst (-1), 1) := by decide +kernel
theorem dX5_drops_9 : decode cX5_drops 9 = .ok (.ireturn, 1) := by decide +kernel
theorem dX5_drops_10 : decode cX5_drops 10 = .ok (.aload_n 0, 1) := by decide +kernel
theorem dX5_drops_11 : decode cX5_drops 11 = .ok (.getfield 29, 3) := by decide +kernel
theorem dX5_drops_14 : decode cX5_drops 14 = .ok (.iload_n 1, 1) := by decide +kernel
theorem dX5_drops_15 : decode cX5_drops 15 = .ok (.invokevirtual 147, 3) := by decide +kernel
theorem dX5_drops_18 : decode cX5_drops 18 = .ok (.ifCond .ne 6, 3) := by decide +kernel
theorem dX5_drops_21 : decode cX5_drops 21 = .ok (.bipush (-2), 2) := by decide +kernel
theorem dX5_drops_23 : decode cX5_drops 23 = .ok (.ireturn, 1) := by decide +kernel
theorem dX5_drops_24 : decode cX5_drops 24 = .ok (.aload_n 0, 1) := by decide +kernel
theorem dX5_drops_25 : decode cX5_drops 25 = .ok (.getfield 39, 3) := by decide +kernel
theorem dX5_drops_28 : decode cX5_drops 28 = .ok (.aload_n 0, 1) := by decide +kernel
theorem dX5_drops_29 : decode cX5_drops 29 = .ok (.getfield 29, 3) := by decide +kernel
theorem dX5_drops_32 : decode cX5_drops 32 = .ok (.invokevirtual 150, 3) := by decide +kernel
theorem dX5_drops_35 : decode cX5_drops 35 = .ok (.aload_n 0, 1) := by decide +kernel
theorem dX5_drops_36 : decode cX5_drops 36 = .ok (.getfield 29, 3) := by decide +kernel
theorem dX5_drops_39 : decode cX5_drops 39 = .ok (.iload_n 1, 1) := by decide +kernel
theorem dX5_drops_40 : decode cX5_drops 40 = .ok (.invokevirtual 154, 3) := by decide +kernel
theorem dX5_drops_43 : decode cX5_drops 43 = .ok (.aload_n 0, 1) := by decide +kernel
theorem dX5_drops_44 : decode cX5_drops 44 = .ok (.getfield 29, 3) := by decide +kernel
theorem dX5_drops_47 : decode cX5_drops 47 = .ok (.invokevirtual 158, 3) := by decide +kernel
theorem dX5_drops_50 : decode cX5_drops 50 = .ok (.invokestatic 132, 3) := by decide +kernel
theorem dX5_drops_53 : decode cX5_drops 53 = .ok (.ireturn, 1) := by decide +kernel
theorem dX5_minute_0 : decode cX5_minute 0 = .ok (.aload_n 0, 1) := by decide +kernel
theorem dX5_minute_1 : decode cX5_minute 1 = .ok (.getfield 29, 3) := by decide +kernel
theorem dX5_minute_4 : decode cX5_minute 4 = .ok (.getfield 116, 3) := by decide +kernel
theorem dX5_minute_7 : decode cX5_minute 7 = .ok (.bipush 99, 2) := by decide +kernel
theorem dX5_minute_9 : decode cX5_minute 9 = .ok (.if_icmp .lt 6, 3) := by decide +kernel
theorem dX5_minute_12 : decode cX5_minute 12 = .ok (.bipush (-2), 2) := by decide +kernel
theorem dX5_minute_14 : decode cX5_minute 14 = .ok (.ireturn, 1) := by decide +kernel
theorem dX5_minute_15 : decode cX5_minute 15 = .ok (.aload_n 0, 1) := by decide +kernel
theorem dX5_minute_16 : decode cX5_minute 16 = .ok (.getfield 39, 3) := by decide +kernel
theorem dX5_minute_19 : decode cX5_minute 19 = .ok (.aload_n 0, 1) := by decide +kernel
theorem dX5_minute_20 : decode cX5_minute 20 = .ok (.getfield 29, 3) := by decide +kernel
theorem dX5_minute_23 : decode cX5_minute 23 = .ok (.invokevirtual 150, 3) := by decide +kernel
theorem dX5_minute_26 : decode cX5_minute 26 = .ok (.aload_n 0, 1) := by decide +kernel
theorem dX5_minute_27 : decode cX5_minute 27 = .ok (.getfield 29, 3) := by decide +kernel
theorem dX5_minute_30 : decode cX5_minute 30 = .ok (.aload_n 0, 1) := by decide +kernel
theorem dX5_minute_31 : decode cX5_minute 31 = .ok (.getfield 19, 3) := by decide +kernel
theorem dX5_minute_34 : decode cX5_minute 34 = .ok (.invokevirtual 161, 3) := by decide +kernel
theorem dX5_minute_37 : decode cX5_minute 37 = .ok (.aload_n 0, 1) := by decide +kernel
theorem dX5_minute_38 : decode cX5_minute 38 = .ok (.getfield 29, 3) := by decide +kernel
theorem dX5_minute_41 : decode cX5_minute 41 = .ok (.invokevirtual 126, 3) := by decide +kernel
theorem dX5_minute_44 : decode cX5_minute 44 = .ok (.invokestatic 132, 3) := by decide +kernel
theorem dX5_minute_47 : decode cX5_minute 47 = .ok (.ireturn, 1) := by decide +kernel
theorem dX5_heats_0 : decode cX5_heats 0 = .ok (.iload_n 1, 1) := by decide +kernel
theorem dX5_heats_1 : decode cX5_heats 1 = .ok (.ifCond .lt 9, 3) := by decide +kernel
theorem dX5_heats_4 : decode cX5_heats 4 = .ok (.iload_n 1, 1) := by decide +kernel
theorem dX5_heats_5 : decode cX5_heats 5 = .ok (.bipush 9, 2) := by decide +kernel
theorem dX5_heats_7 : decode cX5_heats 7 = .ok (.if_icmp .le 5, 3) := by decide +kernel
theorem dX5_heats_10 : decode cX5_heats 10 = .ok (.iconst (-1), 1) := by decide +kernel
theorem dX5_heats_11 : decode cX5_heats 11 = .ok (.ireturn, 1) := by decide +kernel
theorem dX5_heats_12 : decode cX5_heats 12 = .ok (.aload_n 0, 1) := by decide +kernel
theorem dX5_heats_13 : decode cX5_heats 13 = .ok (.getfield 29, 3) := by decide +kernel
theorem dX5_heats_16 : decode cX5_heats 16 = .ok (.getfield 119, 3) := by decide +kernel
theorem dX5_heats_19 : decode cX5_heats 19 = .ok (.iload_n 1, 1) := by decide +kernel
theorem dX5_heats_20 : decode cX5_heats 20 = .ok (.if_icmp .ne 6, 3) := by decide +kernel
theorem dX5_heats_23 : decode cX5_heats 23 = .ok (.bipush (-2), 2) := by decide +kernel
theorem dX5_heats_25 : decode cX5_heats 25 = .ok (.ireturn, 1) := by decide +kernel
theorem dX5_heats_26 : decode cX5_heats 26 = .ok (.aload_n 0, 1) := by decide +kernel
theorem dX5_heats_27 : decode cX5_heats 27 = .ok (.getfield 39, 3) := by decide +kernel
theorem dX5_heats_30 : decode cX5_heats 30 = .ok (.aload_n 0, 1) := by decide +kernel
theorem dX5_heats_31 : decode cX5_heats 31 = .ok (.getfield 29, 3) := by decide +kernel
theorem dX5_heats_34 : decode cX5_heats 34 = .ok (.invokevirtual 150, 3) := by decide +kernel
theorem dX5_heats_37 : decode cX5_heats 37 = .ok (.aload_n 0, 1) := by decide +kernel
theorem dX5_heats_38 : decode cX5_heats 38 = .ok (.getfield 29, 3) := by decide +kernel
theorem dX5_heats_41 : decode cX5_heats 41 = .ok (.getfield 119, 3) := by decide +kernel
theorem dX5_heats_44 : decode cX5_heats 44 = .ok (.istore_n 2, 1) := by decide +kernel
theorem dX5_heats_45 : decode cX5_heats 45 = .ok (.aload_n 0, 1) := by decide +kernel
theorem dX5_heats_46 : decode cX5_heats 46 = .ok (.getfield 29, 3) := by decide +kernel
theorem dX5_heats_49 : decode cX5_heats 49 = .ok (.iload_n 1, 1) := by decide +kernel
theorem dX5_heats_50 : decode cX5_heats 50 = .ok (.putfield 119, 3) := by decide +kernel
theorem dX5_heats_53 : decode cX5_heats 53 = .ok (.iload_n 2, 1) := by decide +kernel
theorem dX5_heats_54 : decode cX5_heats 54 = .ok (.ireturn, 1) := by decide +kernel
theorem dX5_skewers_0 : decode cX5_skewers 0 = .ok (.aload_n 0, 1) := by decide +kernel
theorem dX5_skewers_1 : decode cX5_skewers 1 = .ok (.iload_n 1, 1) := by decide +kernel
theorem dX5_skewers_2 : decode cX5_skewers 2 = .ok (.invokevirtual 92, 3) := by decide +kernel
theorem dX5_skewers_5 : decode cX5_skewers 5 = .ok (.ifCond .ne 5, 3) := by decide +kernel
theorem dX5_skewers_8 : decode cX5_skewers 8 = .ok (.iconst (-1), 1) := by decide +kernel
theorem dX5_skewers_9 : decode cX5_skewers 9 = .ok (.ireturn, 1) := by decide +kernel
theorem dX5_skewers_10 : decode cX5_skewers 10 = .ok (.aload_n 0, 1) := by decide +kernel
theorem dX5_skewers_11 : decode cX5_skewers 11 = .ok (.getfield 29, 3) := by decide +kernel
theorem dX5_skewers_14 : decode cX5_skewers 14 = .ok (.iload_n 1, 1) := by decide +kernel
theorem dX5_skewers_15 : decode cX5_skewers 15 = .ok (.invokevirtual 147, 3) := by decide +kernel
theorem dX5_skewers_18 : decode cX5_skewers 18 = .ok (.ifCond .eq 6, 3) := by decide +kernel
theorem dX5_skewers_21 : decode cX5_skewers 21 = .ok (.bipush (-2), 2) := by decide +kernel
theorem dX5_skewers_23 : decode cX5_skewers 23 = .ok (.ireturn, 1) := by decide +kernel
theorem dX5_skewers_24 : decode cX5_skewers 24 = .ok (.aload_n 0, 1) := by decide +kernel
theorem dX5_skewers_25 : decode cX5_skewers 25 = .ok (.getfield 39, 3) := by decide +kernel
theorem dX5_skewers_28 : decode cX5_skewers 28 = .ok (.aload_n 0, 1) := by decide +kernel
theorem dX5_skewers_29 : decode cX5_skewers 29 = .ok (.getfield 29, 3) := by decide +kernel
theorem dX5_skewers_32 : decode cX5_skewers 32 = .ok (.invokevirtual 150, 3) := by decide +kernel
theorem dX5_skewers_35 : decode cX5_skewers 35 = .ok (.aload_n 0, 1) := by decide +kernel
theorem dX5_skewers_36 : decode cX5_skewers 36 = .ok (.getfield 29, 3) := by decide +kernel
theorem dX5_skewers_39 : decode cX5_skewers 39 = .ok (.iload_n 1, 1) := by decide +kernel
theorem dX5_skewers_40 : decode cX5_skewers 40 = .ok (.invokevirtual 164, 3) := by decide +kernel
theorem dX5_skewers_43 : decode cX5_skewers 43 = .ok (.aload_n 0, 1) := by decide +kernel
theorem dX5_skewers_44 : decode cX5_skewers 44 = .ok (.getfield 29, 3) := by decide +kernel
theorem dX5_skewers_47 : decode cX5_skewers 47 = .ok (.getfield 98, 3) := by decide +kernel
theorem dX5_skewers_50 : decode cX5_skewers 50 = .ok (.iload_n 1, 1) := by decide +kernel
theorem dX5_skewers_51 : decode cX5_skewers 51 = .ok (.iaload, 1) := by decide +kernel
theorem dX5_skewers_52 : decode cX5_skewers 52 = .ok (.ireturn, 1) := by decide +kernel
theorem dX5_dips_0 : decode cX5_dips 0 = .ok (.aload_n 0, 1) := by decide +kernel
theorem dX5_dips_1 : decode cX5_dips 1 = .ok (.iload_n 1, 1) := by decide +kernel
theorem dX5_dips_2 : decode cX5_dips 2 = .ok (.invokevirtual 92, 3) := by decide +kernel
theorem dX5_dips_5 : decode cX5_dips 5 = .ok (.ifCond .ne 5, 3) := by decide +kernel
theorem dX5_dips_8 : decode cX5_dips 8 = .ok (.iconst (-1), 1) := by decide +kernel
theorem dX5_dips_9 : decode cX5_dips 9 = .ok (.ireturn, 1) := by decide +kernel
theorem dX5_dips_10 : decode cX5_dips 10 = .ok (.aload_n 0, 1) := by decide +kernel
theorem dX5_dips_11 : decode cX5_dips 11 = .ok (.getfield 29, 3) := by decide +kernel
theorem dX5_dips_14 : decode cX5_dips 14 = .ok (.getfield 107, 3) := by decide +kernel
theorem dX5_dips_17 : decode cX5_dips 17 = .ok (.iload_n 1, 1) := by decide +kernel
theorem dX5_dips_18 : decode cX5_dips 18 = .ok (.iaload, 1) := by decide +kernel
theorem dX5_dips_19 : decode cX5_dips 19 = .ok (.ifCond .eq 6, 3) := by decide +kernel
theorem dX5_dips_22 : decode cX5_dips 22 = .ok (.bipush (-2), 2) := by decide +kernel
theorem dX5_dips_24 : decode cX5_dips 24 = .ok (.ireturn, 1) := by decide +kernel
theorem dX5_dips_25 : decode cX5_dips 25 = .ok (.aload_n 0, 1) := by decide +kernel
theorem dX5_dips_26 : decode cX5_dips 26 = .ok (.getfield 39, 3) := by decide +kernel
theorem dX5_dips_29 : decode cX5_dips 29 = .ok (.aload_n 0, 1) := by decide +kernel
theorem dX5_dips_30 : decode cX5_dips 30 = .ok (.getfield 29, 3) := by decide +kernel
theorem dX5_dips_33 : decode cX5_dips 33 = .ok (.invokevirtual 150, 3) := by decide +kernel
theorem dX5_dips_36 : decode cX5_dips 36 = .ok (.aload_n 0, 1) := by decide +kernel
theorem dX5_dips_37 : decode cX5_dips 37 = .ok (.getfield 29, 3) := by decide +kernel
theorem dX5_dips_40 : decode cX5_dips 40 = .ok (.iload_n 1, 1) := by decide +kernel
theorem dX5_dips_41 : decode cX5_dips 41 = .ok (.invokevirtual 167, 3) := by decide +kernel
theorem dX5_dips_44 : decode cX5_dips 44 = .ok (.aload_n 0, 1) := by decide +kernel
theorem dX5_dips_45 : decode cX5_dips 45 = .ok (.invokevirtual 122, 3) := by decide +kernel
theorem dX5_dips_48 : decode cX5_dips 48 = .ok (.invokestatic 132, 3) := by decide +kernel
theorem dX5_dips_51 : decode cX5_dips 51 = .ok (.ireturn, 1) := by decide +kernel
theorem dX5_undo_0 : decode cX5_undo 0 = .ok (.aload_n 0, 1) := by decide +kernel
theorem dX5_undo_1 : decode cX5_undo 1 = .ok (.getfield 39, 3) := by decide +kernel
theorem dX5_undo_4 : decode cX5_undo 4 = .ok (.getfield 85, 3) := by decide +kernel
theorem dX5_undo_7 : decode cX5_undo 7 = .ok (.ifCond .ne 6, 3) := by decide +kernel
theorem dX5_undo_10 : decode cX5_undo 10 = .ok (.bipush (-2), 2) := by decide +kernel
theorem dX5_undo_12 : decode cX5_undo 12 = .ok (.ireturn, 1) := by decide +kernel
theorem dX5_undo_13 : decode cX5_undo 13 = .ok (.aload_n 0, 1) := by decide +kernel
theorem dX5_undo_14 : decode cX5_undo 14 = .ok (.getfield 39, 3) := by decide +kernel
theorem dX5_undo_17 : decode cX5_undo 17 = .ok (.aload_n 0, 1) := by decide +kernel
theorem dX5_undo_18 : decode cX5_undo 18 = .ok (.getfield 29, 3) := by decide +kernel
theorem dX5_undo_21 : decode cX5_undo 21 = .ok (.invokevirtual 170, 3) := by decide +kernel
theorem dX5_undo_24 : decode cX5_undo 24 = .ok (.aload_n 0, 1) := by decide +kernel
theorem dX5_undo_25 : decode cX5_undo 25 = .ok (.getfield 39, 3) := by decide +kernel
theorem dX5_undo_28 : decode cX5_undo 28 = .ok (.getfield 85, 3) := by decide +kernel
theorem dX5_undo_31 : decode cX5_undo 31 = .ok (.ireturn, 1) := by decide +kernel
theorem dX5_deep_0 : decode cX5_deep 0 = .ok (.aload_n 0, 1) := by decide +kernel
theorem dX5_deep_1 : decode cX5_deep 1 = .ok (.iload_n 1, 1) := by decide +kernel
theorem dX5_deep_2 : decode cX5_deep 2 = .ok (.invokevirtual 92, 3) := by decide +kernel
theorem dX5_deep_5 : decode cX5_deep 5 = .ok (.ifCond .eq 13, 3) := by decide +kernel
theorem dX5_deep_8 : decode cX5_deep 8 = .ok (.iload_n 2, 1) := by decide +kernel
theorem dX5_deep_9 : decode cX5_deep 9 = .ok (.ifCond .lt 9, 3) := by decide +kernel
theorem dX5_deep_12 : decode cX5_deep 12 = .ok (.iload_n 2, 1) := by decide +kernel
theorem dX5_deep_13 : decode cX5_deep 13 = .ok (.bipush 40, 2) := by decide +kernel
theorem dX5_deep_15 : decode cX5_deep 15 = .ok (.if_icmp .le 5, 3) := by decide +kernel
theorem dX5_deep_18 : decode cX5_deep 18 = .ok (.iconst (-1), 1) := by decide +kernel
theorem dX5_deep_19 : decode cX5_deep 19 = .ok (.ireturn, 1) := by decide +kernel
theorem dX5_deep_20 : decode cX5_deep 20 = .ok (.aload_n 0, 1) := by decide +kernel
theorem dX5_deep_21 : decode cX5_deep 21 = .ok (.getfield 33, 3) := by decide +kernel
theorem dX5_deep_24 : decode cX5_deep 24 = .ok (.aload_n 0, 1) := by decide +kernel
theorem dX5_deep_25 : decode cX5_deep 25 = .ok (.getfield 29, 3) := by decide +kernel
theorem dX5_deep_28 : decode cX5_deep 28 = .ok (.invokevirtual 173, 3) := by decide +kernel
theorem dX5_deep_31 : decode cX5_deep 31 = .ok (.iconst 0, 1) := by decide +kernel
theorem dX5_deep_32 : decode cX5_deep 32 = .ok (.istore_n 3, 1) := by decide +kernel
theorem dX5_deep_33 : decode cX5_deep 33 = .ok (.iload_n 3, 1) := by decide +kernel
theorem dX5_deep_34 : decode cX5_deep 34 = .ok (.iload_n 2, 1) := by decide +kernel
theorem dX5_deep_35 : decode cX5_deep 35 = .ok (.if_icmp .ge 20, 3) := by decide +kernel
theorem dX5_deep_38 : decode cX5_deep 38 = .ok (.aload_n 0, 1) := by decide +kernel
theorem dX5_deep_39 : decode cX5_deep 39 = .ok (.getfield 33, 3) := by decide +kernel
theorem dX5_deep_42 : decode cX5_deep 42 = .ok (.aload_n 0, 1) := by decide +kernel
theorem dX5_deep_43 : decode cX5_deep 43 = .ok (.getfield 19, 3) := by decide +kernel
theorem dX5_deep_46 : decode cX5_deep 46 = .ok (.invokevirtual 161, 3) := by decide +kernel
theorem dX5_deep_49 : decode cX5_deep 49 = .ok (.iinc 3 1, 3) := by decide +kernel
theorem dX5_deep_52 : decode cX5_deep 52 = .ok (.goto (-19), 3) := by decide +kernel
theorem dX5_deep_55 : decode cX5_deep 55 = .ok (.aload_n 0, 1) := by decide +kernel
theorem dX5_deep_56 : decode cX5_deep 56 = .ok (.getfield 33, 3) := by decide +kernel
theorem dX5_deep_59 : decode cX5_deep 59 = .ok (.getfield 107, 3) := by decide +kernel
theorem dX5_deep_62 : decode cX5_deep 62 = .ok (.iload_n 1, 1) := by decide +kernel
theorem dX5_deep_63 : decode cX5_deep 63 = .ok (.iaload, 1) := by decide +kernel
theorem dX5_deep_64 : decode cX5_deep 64 = .ok (.ireturn, 1) := by decide +kernel
theorem dX5_when_0 : decode cX5_when 0 = .ok (.aload_n 0, 1) := by decide +kernel
theorem dX5_when_1 : decode cX5_when 1 = .ok (.iload_n 1, 1) := by decide +kernel
theorem dX5_when_2 : decode cX5_when 2 = .ok (.invokevirtual 92, 3) := by decide +kernel
theorem dX5_when_5 : decode cX5_when 5 = .ok (.ifCond .ne 5, 3) := by decide +kernel
theorem dX5_when_8 : decode cX5_when 8 = .ok (.iconst (-1), 1) := by decide +kernel
theorem dX5_when_9 : decode cX5_when 9 = .ok (.ireturn, 1) := by decide +kernel
theorem dX5_when_10 : decode cX5_when 10 = .ok (.aload_n 0, 1) := by decide +kernel
theorem dX5_when_11 : decode cX5_when 11 = .ok (.getfield 29, 3) := by decide +kernel
theorem dX5_when_14 : decode cX5_when 14 = .ok (.iload_n 1, 1) := by decide +kernel
theorem dX5_when_15 : decode cX5_when 15 = .ok (.invokevirtual 147, 3) := by decide +kernel
theorem dX5_when_18 : decode cX5_when 18 = .ok (.ifCond .eq 6, 3) := by decide +kernel
theorem dX5_when_21 : decode cX5_when 21 = .ok (.bipush (-2), 2) := by decide +kernel
theorem dX5_when_23 : decode cX5_when 23 = .ok (.ireturn, 1) := by decide +kernel
theorem dX5_when_24 : decode cX5_when 24 = .ok (.aload_n 0, 1) := by decide +kernel
theorem dX5_when_25 : decode cX5_when 25 = .ok (.iload_n 1, 1) := by decide +kernel
theorem dX5_when_26 : decode cX5_when 26 = .ok (.bipush 40, 2) := by decide +kernel
theorem dX5_when_28 : decode cX5_when 28 = .ok (.aload_n 0, 1) := by decide +kernel
theorem dX5_when_29 : decode cX5_when 29 = .ok (.getfield 29, 3) := by decide +kernel
theorem dX5_when_32 : decode cX5_when 32 = .ok (.getfield 119, 3) := by decide +kernel
theorem dX5_when_35 : decode cX5_when 35 = .ok (.invokevirtual 175, 3) := by decide +kernel
theorem dX5_when_38 : decode cX5_when 38 = .ok (.ireturn, 1) := by decide +kernel
theorem dX5_warm_0 : decode cX5_warm 0 = .ok (.aload_n 0, 1) := by decide +kernel
theorem dX5_warm_1 : decode cX5_warm 1 = .ok (.iload_n 1, 1) := by decide +kernel
theorem dX5_warm_2 : decode cX5_warm 2 = .ok (.invokevirtual 92, 3) := by decide +kernel
theorem dX5_warm_5 : decode cX5_warm 5 = .ok (.ifCond .eq 14, 3) := by decide +kernel
theorem dX5_warm_8 : decode cX5_warm 8 = .ok (.iload_n 2, 1) := by decide +kernel
theorem dX5_warm_9 : decode cX5_warm 9 = .ok (.iconst 1, 1) := by decide +kernel
theorem dX5_warm_10 : decode cX5_warm 10 = .ok (.if_icmp .lt 9, 3) := by decide +kernel
theorem dX5_warm_13 : decode cX5_warm 13 = .ok (.iload_n 2, 1) := by decide +kernel
theorem dX5_warm_14 : decode cX5_warm 14 = .ok (.bipush 40, 2) := by decide +kernel
theorem dX5_warm_16 : decode cX5_warm 16 = .ok (.if_icmp .le 5, 3) := by decide +kernel
theorem dX5_warm_19 : decode cX5_warm 19 = .ok (.iconst (-1), 1) := by decide +kernel
theorem dX5_warm_20 : decode cX5_warm 20 = .ok (.ireturn, 1) := by decide +kernel
theorem dX5_warm_21 : decode cX5_warm 21 = .ok (.aload_n 0, 1) := by decide +kernel
theorem dX5_warm_22 : decode cX5_warm 22 = .ok (.getfield 29, 3) := by decide +kernel
theorem dX5_warm_25 : decode cX5_warm 25 = .ok (.iload_n 1, 1) := by decide +kernel
theorem dX5_warm_26 : decode cX5_warm 26 = .ok (.invokevirtual 147, 3) := by decide +kernel
theorem dX5_warm_29 : decode cX5_warm 29 = .ok (.ifCond .eq 6, 3) := by decide +kernel
theorem dX5_warm_32 : decode cX5_warm 32 = .ok (.bipush (-2), 2) := by decide +kernel
theorem dX5_warm_34 : decode cX5_warm 34 = .ok (.ireturn, 1) := by decide +kernel
theorem dX5_warm_35 : decode cX5_warm 35 = .ok (.iconst 0, 1) := by decide +kernel
theorem dX5_warm_36 : decode cX5_warm 36 = .ok (.istore_n 3, 1) := by decide +kernel
theorem dX5_warm_37 : decode cX5_warm 37 = .ok (.iload_n 3, 1) := by decide +kernel
theorem dX5_warm_38 : decode cX5_warm 38 = .ok (.bipush 9, 2) := by decide +kernel
theorem dX5_warm_40 : decode cX5_warm 40 = .ok (.if_icmp .gt 23, 3) := by decide +kernel
theorem dX5_warm_43 : decode cX5_warm 43 = .ok (.aload_n 0, 1) := by decide +kernel
theorem dX5_warm_44 : decode cX5_warm 44 = .ok (.iload_n 1, 1) := by decide +kernel
theorem dX5_warm_45 : decode cX5_warm 45 = .ok (.iload_n 2, 1) := by decide +kernel
theorem dX5_warm_46 : decode cX5_warm 46 = .ok (.iload_n 3, 1) := by decide +kernel
theorem dX5_warm_47 : decode cX5_warm 47 = .ok (.invokevirtual 175, 3) := by decide +kernel
theorem dX5_warm_50 : decode cX5_warm 50 = .ok (.bipush (-9), 2) := by decide +kernel
theorem dX5_warm_52 : decode cX5_warm 52 = .ok (.if_icmp .eq 5, 3) := by decide +kernel
theorem dX5_warm_55 : decode cX5_warm 55 = .ok (.iload_n 3, 1) := by decide +kernel
theorem dX5_warm_56 : decode cX5_warm 56 = .ok (.ireturn, 1) := by decide +kernel
theorem dX5_warm_57 : decode cX5_warm 57 = .ok (.iinc 3 1, 3) := by decide +kernel
theorem dX5_warm_60 : decode cX5_warm 60 = .ok (.goto (-23), 3) := by decide +kernel
theorem dX5_warm_63 : decode cX5_warm 63 = .ok (.bipush (-9), 2) := by decide +kernel
theorem dX5_warm_65 : decode cX5_warm 65 = .ok (.ireturn, 1) := by decide +kernel
theorem dX5_kept_0 : decode cX5_kept 0 = .ok (.aload_n 0, 1) := by decide +kernel
theorem dX5_kept_1 : decode cX5_kept 1 = .ok (.iload_n 1, 1) := by decide +kernel
theorem dX5_kept_2 : decode cX5_kept 2 = .ok (.invokevirtual 92, 3) := by decide +kernel
theorem dX5_kept_5 : decode cX5_kept 5 = .ok (.ifCond .eq 14, 3) := by decide +kernel
theorem dX5_kept_8 : decode cX5_kept 8 = .ok (.iload_n 2, 1) := by decide +kernel
theorem dX5_kept_9 : decode cX5_kept 9 = .ok (.iconst 1, 1) := by decide +kernel
theorem dX5_kept_10 : decode cX5_kept 10 = .ok (.if_icmp .lt 9, 3) := by decide +kernel
theorem dX5_kept_13 : decode cX5_kept 13 = .ok (.iload_n 2, 1) := by decide +kernel
theorem dX5_kept_14 : decode cX5_kept 14 = .ok (.bipush 40, 2) := by decide +kernel
theorem dX5_kept_16 : decode cX5_kept 16 = .ok (.if_icmp .le 5, 3) := by decide +kernel
theorem dX5_kept_19 : decode cX5_kept 19 = .ok (.iconst (-1), 1) := by decide +kernel
theorem dX5_kept_20 : decode cX5_kept 20 = .ok (.ireturn, 1) := by decide +kernel
theorem dX5_kept_21 : decode cX5_kept 21 = .ok (.aload_n 0, 1) := by decide +kernel
theorem dX5_kept_22 : decode cX5_kept 22 = .ok (.getfield 29, 3) := by decide +kernel
theorem dX5_kept_25 : decode cX5_kept 25 = .ok (.iload_n 1, 1) := by decide +kernel
theorem dX5_kept_26 : decode cX5_kept 26 = .ok (.invokevirtual 147, 3) := by decide +kernel
theorem dX5_kept_29 : decode cX5_kept 29 = .ok (.ifCond .eq 14, 3) := by decide +kernel
theorem dX5_kept_32 : decode cX5_kept 32 = .ok (.aload_n 0, 1) := by decide +kernel
theorem dX5_kept_33 : decode cX5_kept 33 = .ok (.getfield 29, 3) := by decide +kernel
theorem dX5_kept_36 : decode cX5_kept 36 = .ok (.iload_n 1, 1) := by decide +kernel
theorem dX5_kept_37 : decode cX5_kept 37 = .ok (.invokevirtual 141, 3) := by decide +kernel
theorem dX5_kept_40 : decode cX5_kept 40 = .ok (.ifCond .eq 6, 3) := by decide +kernel
theorem dX5_kept_43 : decode cX5_kept 43 = .ok (.bipush (-2), 2) := by decide +kernel
theorem dX5_kept_45 : decode cX5_kept 45 = .ok (.ireturn, 1) := by decide +kernel
theorem dX5_kept_46 : decode cX5_kept 46 = .ok (.aload_n 0, 1) := by decide +kernel
theorem dX5_kept_47 : decode cX5_kept 47 = .ok (.invokevirtual 122, 3) := by decide +kernel
theorem dX5_kept_50 : decode cX5_kept 50 = .ok (.istore_n 3, 1) := by decide +kernel
theorem dX5_kept_51 : decode cX5_kept 51 = .ok (.iload_n 3, 1) := by decide +kernel
theorem dX5_kept_52 : decode cX5_kept 52 = .ok (.iconst 1, 1) := by decide +kernel
theorem dX5_kept_53 : decode cX5_kept 53 = .ok (.iload_n 1, 1) := by decide +kernel
theorem dX5_kept_54 : decode cX5_kept 54 = .ok (.ishl, 1) := by decide +kernel
theorem dX5_kept_55 : decode cX5_kept 55 = .ok (.iconst (-1), 1) := by decide +kernel
theorem dX5_kept_56 : decode cX5_kept 56 = .ok (.ixor, 1) := by decide +kernel
theorem dX5_kept_57 : decode cX5_kept 57 = .ok (.iand, 1) := by decide +kernel
theorem dX5_kept_58 : decode cX5_kept 58 = .ok (.istore 4, 2) := by decide +kernel
theorem dX5_kept_60 : decode cX5_kept 60 = .ok (.bipush (-9), 2) := by decide +kernel
theorem dX5_kept_62 : decode cX5_kept 62 = .ok (.istore 5, 2) := by decide +kernel
theorem dX5_kept_64 : decode cX5_kept 64 = .ok (.iconst 0, 1) := by decide +kernel
theorem dX5_kept_65 : decode cX5_kept 65 = .ok (.istore 6, 2) := by decide +kernel
theorem dX5_kept_67 : decode cX5_kept 67 = .ok (.iload 6, 2) := by decide +kernel
theorem dX5_kept_69 : decode cX5_kept 69 = .ok (.bipush 64, 2) := by decide +kernel
theorem dX5_kept_71 : decode cX5_kept 71 = .ok (.if_icmp .ge 60, 3) := by decide +kernel
theorem dX5_kept_74 : decode cX5_kept 74 = .ok (.iload 6, 2) := by decide +kernel
theorem dX5_kept_76 : decode cX5_kept 76 = .ok (.iload 4, 2) := by decide +kernel
theorem dX5_kept_78 : decode cX5_kept 78 = .ok (.iconst (-1), 1) := by decide +kernel
theorem dX5_kept_79 : decode cX5_kept 79 = .ok (.ixor, 1) := by decide +kernel
theorem dX5_kept_80 : decode cX5_kept 80 = .ok (.iand, 1) := by decide +kernel
theorem dX5_kept_81 : decode cX5_kept 81 = .ok (.ifCond .ne 17, 3) := by decide +kernel
theorem dX5_kept_84 : decode cX5_kept 84 = .ok (.iload 6, 2) := by decide +kernel
theorem dX5_kept_86 : decode cX5_kept 86 = .ok (.iload 5, 2) := by decide +kernel
theorem dX5_kept_88 : decode cX5_kept 88 = .ok (.invokestatic 179, 3) := by decide +kernel
theorem dX5_kept_91 : decode cX5_kept 91 = .ok (.ifCond .eq 7, 3) := by decide +kernel
theorem dX5_kept_94 : decode cX5_kept 94 = .ok (.iconst 1, 1) := by decide +kernel
theorem dX5_kept_95 : decode cX5_kept 95 = .ok (.goto 4, 3) := by decide +kernel
theorem dX5_kept_98 : decode cX5_kept 98 = .ok (.iconst 0, 1) := by decide +kernel
theorem dX5_kept_99 : decode cX5_kept 99 = .ok (.istore 7, 2) := by decide +kernel
theorem dX5_kept_101 : decode cX5_kept 101 = .ok (.iload 7, 2) := by decide +kernel
theorem dX5_kept_103 : decode cX5_kept 103 = .ok (.ifCond .eq 22, 3) := by decide +kernel
theorem dX5_kept_106 : decode cX5_kept 106 = .ok (.aload_n 0, 1) := by decide +kernel
theorem dX5_kept_107 : decode cX5_kept 107 = .ok (.iload_n 1, 1) := by decide +kernel
theorem dX5_kept_108 : decode cX5_kept 108 = .ok (.iload_n 2, 1) := by decide +kernel
theorem dX5_kept_109 : decode cX5_kept 109 = .ok (.iload_n 3, 1) := by decide +kernel
theorem dX5_kept_110 : decode cX5_kept 110 = .ok (.iload 6, 2) := by decide +kernel
theorem dX5_kept_112 : decode cX5_kept 112 = .ok (.iconst (-1), 1) := by decide +kernel
theorem dX5_kept_113 : decode cX5_kept 113 = .ok (.ixor, 1) := by decide +kernel
theorem dX5_kept_114 : decode cX5_kept 114 = .ok (.iand, 1) := by decide +kernel
theorem dX5_kept_115 : decode cX5_kept 115 = .ok (.invokevirtual 183, 3) := by decide +kernel
theorem dX5_kept_118 : decode cX5_kept 118 = .ok (.ifCond .eq 7, 3) := by decide +kernel
theorem dX5_kept_121 : decode cX5_kept 121 = .ok (.iload 6, 2) := by decide +kernel
theorem dX5_kept_123 : decode cX5_kept 123 = .ok (.istore 5, 2) := by decide +kernel
theorem dX5_kept_125 : decode cX5_kept 125 = .ok (.iinc 6 1, 3) := by decide +kernel
theorem dX5_kept_128 : decode cX5_kept 128 = .ok (.goto (-61), 3) := by decide +kernel
theorem dX5_kept_131 : decode cX5_kept 131 = .ok (.iload 5, 2) := by decide +kernel
theorem dX5_kept_133 : decode cX5_kept 133 = .ok (.ireturn, 1) := by decide +kernel
theorem dX5_party_0 : decode cX5_party 0 = .ok (.iload_n 1, 1) := by decide +kernel
theorem dX5_party_1 : decode cX5_party 1 = .ok (.iconst 1, 1) := by decide +kernel
theorem dX5_party_2 : decode cX5_party 2 = .ok (.if_icmp .lt 9, 3) := by decide +kernel
theorem dX5_party_5 : decode cX5_party 5 = .ok (.iload_n 1, 1) := by decide +kernel
theorem dX5_party_6 : decode cX5_party 6 = .ok (.bipush 54, 2) := by decide +kernel
theorem dX5_party_8 : decode cX5_party 8 = .ok (.if_icmp .le 5, 3) := by decide +kernel
theorem dX5_party_11 : decode cX5_party 11 = .ok (.iconst (-1), 1) := by decide +kernel
theorem dX5_party_12 : decode cX5_party 12 = .ok (.ireturn, 1) := by decide +kernel
theorem dX5_party_13 : decode cX5_party 13 = .ok (.aload_n 0, 1) := by decide +kernel
theorem dX5_party_14 : decode cX5_party 14 = .ok (.getfield 19, 3) := by decide +kernel
theorem dX5_party_17 : decode cX5_party 17 = .ok (.invokevirtual 187, 3) := by decide +kernel
theorem dX5_party_20 : decode cX5_party 20 = .ok (.istore_n 2, 1) := by decide +kernel
theorem dX5_party_21 : decode cX5_party 21 = .ok (.bipush (-9), 2) := by decide +kernel
theorem dX5_party_23 : decode cX5_party 23 = .ok (.istore_n 3, 1) := by decide +kernel
theorem dX5_party_24 : decode cX5_party 24 = .ok (.iconst 0, 1) := by decide +kernel
theorem dX5_party_25 : decode cX5_party 25 = .ok (.istore 4, 2) := by decide +kernel
theorem dX5_party_27 : decode cX5_party 27 = .ok (.iload 4, 2) := by decide +kernel
theorem dX5_party_29 : decode cX5_party 29 = .ok (.iload_n 2, 1) := by decide +kernel
theorem dX5_party_30 : decode cX5_party 30 = .ok (.if_icmp .gt 34, 3) := by decide +kernel
theorem dX5_party_33 : decode cX5_party 33 = .ok (.iload 4, 2) := by decide +kernel
theorem dX5_party_35 : decode cX5_party 35 = .ok (.iload_n 3, 1) := by decide +kernel
theorem dX5_party_36 : decode cX5_party 36 = .ok (.invokestatic 179, 3) := by decide +kernel
theorem dX5_party_39 : decode cX5_party 39 = .ok (.ifCond .eq 19, 3) := by decide +kernel
theorem dX5_party_42 : decode cX5_party 42 = .ok (.aload_n 0, 1) := by decide +kernel
theorem dX5_party_43 : decode cX5_party 43 = .ok (.getfield 19, 3) := by decide +kernel
theorem dX5_party_46 : decode cX5_party 46 = .ok (.iload 4, 2) := by decide +kernel
theorem dX5_party_48 : decode cX5_party 48 = .ok (.invokevirtual 190, 3) := by decide +kernel
theorem dX5_party_51 : decode cX5_party 51 = .ok (.iload_n 1, 1) := by decide +kernel
theorem dX5_party_52 : decode cX5_party 52 = .ok (.if_icmp .lt 6, 3) := by decide +kernel
theorem dX5_party_55 : decode cX5_party 55 = .ok (.iload 4, 2) := by decide +kernel
theorem dX5_party_57 : decode cX5_party 57 = .ok (.istore_n 3, 1) := by decide +kernel
theorem dX5_party_58 : decode cX5_party 58 = .ok (.iinc 4 1, 3) := by decide +kernel
theorem dX5_party_61 : decode cX5_party 61 = .ok (.goto (-34), 3) := by decide +kernel
theorem dX5_party_64 : decode cX5_party 64 = .ok (.iload_n 3, 1) := by decide +kernel
theorem dX5_party_65 : decode cX5_party 65 = .ok (.ireturn, 1) := by decide +kernel
theorem dX5_power_0 : decode cX5_power 0 = .ok (.aload_n 0, 1) := by decide +kernel
theorem dX5_power_1 : decode cX5_power 1 = .ok (.iload_n 1, 1) := by decide +kernel
theorem dX5_power_2 : decode cX5_power 2 = .ok (.invokevirtual 92, 3) := by decide +kernel
theorem dX5_power_5 : decode cX5_power 5 = .ok (.ifCond .eq 14, 3) := by decide +kernel
theorem dX5_power_8 : decode cX5_power 8 = .ok (.iload_n 2, 1) := by decide +kernel
theorem dX5_power_9 : decode cX5_power 9 = .ok (.iconst 1, 1) := by decide +kernel
theorem dX5_power_10 : decode cX5_power 10 = .ok (.if_icmp .lt 9, 3) := by decide +kernel
theorem dX5_power_13 : decode cX5_power 13 = .ok (.iload_n 2, 1) := by decide +kernel
theorem dX5_power_14 : decode cX5_power 14 = .ok (.bipush 54, 2) := by decide +kernel
theorem dX5_power_16 : decode cX5_power 16 = .ok (.if_icmp .le 5, 3) := by decide +kernel
theorem dX5_power_19 : decode cX5_power 19 = .ok (.iconst (-1), 1) := by decide +kernel
theorem dX5_power_20 : decode cX5_power 20 = .ok (.ireturn, 1) := by decide +kernel
theorem dX5_power_21 : decode cX5_power 21 = .ok (.aload_n 0, 1) := by decide +kernel
theorem dX5_power_22 : decode cX5_power 22 = .ok (.getfield 19, 3) := by decide +kernel
theorem dX5_power_25 : decode cX5_power 25 = .ok (.invokevirtual 187, 3) := by decide +kernel
theorem dX5_power_28 : decode cX5_power 28 = .ok (.istore_n 3, 1) := by decide +kernel
theorem dX5_power_29 : decode cX5_power 29 = .ok (.aload_n 0, 1) := by decide +kernel
theorem dX5_power_30 : decode cX5_power 30 = .ok (.getfield 19, 3) := by decide +kernel
theorem dX5_power_33 : decode cX5_power 33 = .ok (.getfield 104, 3) := by decide +kernel
theorem dX5_power_36 : decode cX5_power 36 = .ok (.iload_n 1, 1) := by decide +kernel
theorem dX5_power_37 : decode cX5_power 37 = .ok (.iaload, 1) := by decide +kernel
theorem dX5_power_38 : decode cX5_power 38 = .ok (.istore 4, 2) := by decide +kernel
theorem dX5_power_40 : decode cX5_power 40 = .ok (.iconst 0, 1) := by decide +kernel
theorem dX5_power_41 : decode cX5_power 41 = .ok (.istore 5, 2) := by decide +kernel
theorem dX5_power_43 : decode cX5_power 43 = .ok (.iconst 0, 1) := by decide +kernel
theorem dX5_power_44 : decode cX5_power 44 = .ok (.istore 6, 2) := by decide +kernel
theorem dX5_power_46 : decode cX5_power 46 = .ok (.iload 6, 2) := by decide +kernel
theorem dX5_power_48 : decode cX5_power 48 = .ok (.iload_n 3, 1) := by decide +kernel
theorem dX5_power_49 : decode cX5_power 49 = .ok (.if_icmp .gt 47, 3) := by decide +kernel
theorem dX5_power_52 : decode cX5_power 52 = .ok (.aload_n 0, 1) := by decide +kernel
theorem dX5_power_53 : decode cX5_power 53 = .ok (.getfield 19, 3) := by decide +kernel
theorem dX5_power_56 : decode cX5_power 56 = .ok (.iload 6, 2) := by decide +kernel
theorem dX5_power_58 : decode cX5_power 58 = .ok (.invokevirtual 190, 3) := by decide +kernel
theorem dX5_power_61 : decode cX5_power 61 = .ok (.istore 7, 2) := by decide +kernel
theorem dX5_power_63 : decode cX5_power 63 = .ok (.iload 6, 2) := by decide +kernel
theorem dX5_power_65 : decode cX5_power 65 = .ok (.iload_n 1, 1) := by decide +kernel
theorem dX5_power_66 : decode cX5_power 66 = .ok (.ishr, 1) := by decide +kernel
theorem dX5_power_67 : decode cX5_power 67 = .ok (.iconst 1, 1) := by decide +kernel
theorem dX5_power_68 : decode cX5_power 68 = .ok (.iand, 1) := by decide +kernel
theorem dX5_power_69 : decode cX5_power 69 = .ok (.ifCond .ne 21, 3) := by decide +kernel
theorem dX5_power_72 : decode cX5_power 72 = .ok (.iload 7, 2) := by decide +kernel
theorem dX5_power_74 : decode cX5_power 74 = .ok (.iload_n 2, 1) := by decide +kernel
theorem dX5_power_75 : decode cX5_power 75 = .ok (.if_icmp .ge 15, 3) := by decide +kernel
theorem dX5_power_78 : decode cX5_power 78 = .ok (.iload 7, 2) := by decide +kernel
theorem dX5_power_80 : decode cX5_power 80 = .ok (.iload 4, 2) := by decide +kernel
theorem dX5_power_82 : decode cX5_power 82 = .ok (.iadd, 1) := by decide +kernel
theorem dX5_power_83 : decode cX5_power 83 = .ok (.iload_n 2, 1) := by decide +kernel
theorem dX5_power_84 : decode cX5_power 84 = .ok (.if_icmp .lt 6, 3) := by decide +kernel
theorem dX5_power_87 : decode cX5_power 87 = .ok (.iinc 5 1, 3) := by decide +kernel
theorem dX5_power_90 : decode cX5_power 90 = .ok (.iinc 6 1, 3) := by decide +kernel
theorem dX5_power_93 : decode cX5_power 93 = .ok (.goto (-47), 3) := by decide +kernel
theorem dX5_power_96 : decode cX5_power 96 = .ok (.iload 5, 2) := by decide +kernel
theorem dX5_power_98 : decode cX5_power 98 = .ok (.ireturn, 1) := by decide +kernel
theorem dX5_odds_0 : decode cX5_odds 0 = .ok (.iload_n 1, 1) := by decide +kernel
theorem dX5_odds_1 : decode cX5_odds 1 = .ok (.ifCond .lt 28, 3) := by decide +kernel
theorem dX5_odds_4 : decode cX5_odds 4 = .ok (.iload_n 1, 1) := by decide +kernel
theorem dX5_odds_5 : decode cX5_odds 5 = .ok (.bipush 10, 2) := by decide +kernel
theorem dX5_odds_7 : decode cX5_odds 7 = .ok (.if_icmp .gt 22, 3) := by decide +kernel
theorem dX5_odds_10 : decode cX5_odds 10 = .ok (.iload_n 2, 1) := by decide +kernel
theorem dX5_odds_11 : decode cX5_odds 11 = .ok (.ifCond .lt 18, 3) := by decide +kernel
theorem dX5_odds_14 : decode cX5_odds 14 = .ok (.iload_n 2, 1) := by decide +kernel
theorem dX5_odds_15 : decode cX5_odds 15 = .ok (.bipush 6, 2) := by decide +kernel
theorem dX5_odds_17 : decode cX5_odds 17 = .ok (.if_icmp .gt 12, 3) := by decide +kernel
theorem dX5_odds_20 : decode cX5_odds 20 = .ok (.iload_n 3, 1) := by decide +kernel
theorem dX5_odds_21 : decode cX5_odds 21 = .ok (.ifCond .lt 8, 3) := by decide +kernel
theorem dX5_odds_24 : decode cX5_odds 24 = .ok (.iload_n 3, 1) := by decide +kernel
theorem dX5_odds_25 : decode cX5_odds 25 = .ok (.iconst 1, 1) := by decide +kernel
theorem dX5_odds_26 : decode cX5_odds 26 = .ok (.if_icmp .le 5, 3) := by decide +kernel
theorem dX5_odds_29 : decode cX5_odds 29 = .ok (.iconst (-1), 1) := by decide +kernel
theorem dX5_odds_30 : decode cX5_odds 30 = .ok (.ireturn, 1) := by decide +kernel
theorem dX5_odds_31 : decode cX5_odds 31 = .ok (.aload_n 0, 1) := by decide +kernel
theorem dX5_odds_32 : decode cX5_odds 32 = .ok (.getfield 29, 3) := by decide +kernel
theorem dX5_odds_35 : decode cX5_odds 35 = .ok (.invokevirtual 158, 3) := by decide +kernel
theorem dX5_odds_38 : decode cX5_odds 38 = .ok (.invokestatic 132, 3) := by decide +kernel
theorem dX5_odds_41 : decode cX5_odds 41 = .ok (.istore 4, 2) := by decide +kernel
theorem dX5_odds_43 : decode cX5_odds 43 = .ok (.iconst 0, 1) := by decide +kernel
theorem dX5_odds_44 : decode cX5_odds 44 = .ok (.istore 5, 2) := by decide +kernel
theorem dX5_odds_46 : decode cX5_odds 46 = .ok (.iconst 0, 1) := by decide +kernel
theorem dX5_odds_47 : decode cX5_odds 47 = .ok (.istore 6, 2) := by decide +kernel
theorem dX5_odds_49 : decode cX5_odds 49 = .ok (.iload 6, 2) := by decide +kernel
theorem dX5_odds_51 : decode cX5_odds 51 = .ok (.iconst 1, 1) := by decide +kernel
theorem dX5_odds_52 : decode cX5_odds 52 = .ok (.iload 4, 2) := by decide +kernel
theorem dX5_odds_54 : decode cX5_odds 54 = .ok (.ishl, 1) := by decide +kernel
theorem dX5_odds_55 : decode cX5_odds 55 = .ok (.if_icmp .ge 46, 3) := by decide +kernel
theorem dX5_odds_58 : decode cX5_odds 58 = .ok (.iload 6, 2) := by decide +kernel
theorem dX5_odds_60 : decode cX5_odds 60 = .ok (.invokestatic 132, 3) := by decide +kernel
theorem dX5_odds_63 : decode cX5_odds 63 = .ok (.istore 7, 2) := by decide +kernel
theorem dX5_odds_65 : decode cX5_odds 65 = .ok (.iload 7, 2) := by decide +kernel
theorem dX5_odds_67 : decode cX5_odds 67 = .ok (.iload_n 2, 1) := by decide +kernel
theorem dX5_odds_68 : decode cX5_odds 68 = .ok (.if_icmp .gt 27, 3) := by decide +kernel
theorem dX5_odds_71 : decode cX5_odds 71 = .ok (.iload 5, 2) := by decide +kernel
theorem dX5_odds_73 : decode cX5_odds 73 = .ok (.iload_n 1, 1) := by decide +kernel
theorem dX5_odds_74 : decode cX5_odds 74 = .ok (.iload 7, 2) := by decide +kernel
theorem dX5_odds_76 : decode cX5_odds 76 = .ok (.invokestatic 193, 3) := by decide +kernel
theorem dX5_odds_79 : decode cX5_odds 79 = .ok (.bipush 10, 2) := by decide +kernel
theorem dX5_odds_81 : decode cX5_odds 81 = .ok (.iload_n 1, 1) := by decide +kernel
theorem dX5_odds_82 : decode cX5_odds 82 = .ok (.isub, 1) := by decide +kernel
theorem dX5_odds_83 : decode cX5_odds 83 = .ok (.iload 4, 2) := by decide +kernel
theorem dX5_odds_85 : decode cX5_odds 85 = .ok (.iload 7, 2) := by decide +kernel
theorem dX5_odds_87 : decode cX5_odds 87 = .ok (.isub, 1) := by decide +kernel
theorem dX5_odds_88 : decode cX5_odds 88 = .ok (.invokestatic 193, 3) := by decide +kernel
theorem dX5_odds_91 : decode cX5_odds 91 = .ok (.imul, 1) := by decide +kernel
theorem dX5_odds_92 : decode cX5_odds 92 = .ok (.iadd, 1) := by decide +kernel
theorem dX5_odds_93 : decode cX5_odds 93 = .ok (.istore 5, 2) := by decide +kernel
theorem dX5_odds_95 : decode cX5_odds 95 = .ok (.iinc 6 1, 3) := by decide +kernel
theorem dX5_odds_98 : decode cX5_odds 98 = .ok (.goto (-49), 3) := by decide +kernel
theorem dX5_odds_101 : decode cX5_odds 101 = .ok (.bipush 10, 2) := by decide +kernel
theorem dX5_odds_103 : decode cX5_odds 103 = .ok (.iload 4, 2) := by decide +kernel
theorem dX5_odds_105 : decode cX5_odds 105 = .ok (.invokestatic 193, 3) := by decide +kernel
theorem dX5_odds_108 : decode cX5_odds 108 = .ok (.istore 6, 2) := by decide +kernel
theorem dX5_odds_110 : decode cX5_odds 110 = .ok (.iload 5, 2) := by decide +kernel
theorem dX5_odds_112 : decode cX5_odds 112 = .ok (.iload 6, 2) := by decide +kernel
theorem dX5_odds_114 : decode cX5_odds 114 = .ok (.invokestatic 197, 3) := by decide +kernel
theorem dX5_odds_117 : decode cX5_odds 117 = .ok (.istore 7, 2) := by decide +kernel
theorem dX5_odds_119 : decode cX5_odds 119 = .ok (.iload_n 3, 1) := by decide +kernel
theorem dX5_odds_120 : decode cX5_odds 120 = .ok (.ifCond .ne 8, 3) := by decide +kernel
theorem dX5_odds_123 : decode cX5_odds 123 = .ok (.iload 5, 2) := by decide +kernel
theorem dX5_odds_125 : decode cX5_odds 125 = .ok (.goto 5, 3) := by decide +kernel
theorem dX5_odds_128 : decode cX5_odds 128 = .ok (.iload 6, 2) := by decide +kernel
theorem dX5_odds_130 : decode cX5_odds 130 = .ok (.istore 8, 2) := by decide +kernel
theorem dX5_odds_132 : decode cX5_odds 132 = .ok (.iload 7, 2) := by decide +kernel
theorem dX5_odds_134 : decode cX5_odds 134 = .ok (.ifCond .le 11, 3) := by decide +kernel
theorem dX5_odds_137 : decode cX5_odds 137 = .ok (.iload 8, 2) := by decide +kernel
theorem dX5_odds_139 : decode cX5_odds 139 = .ok (.iload 7, 2) := by decide +kernel
theorem dX5_odds_141 : decode cX5_odds 141 = .ok (.idiv, 1) := by decide +kernel
theorem dX5_odds_142 : decode cX5_odds 142 = .ok (.goto 5, 3) := by decide +kernel
theorem dX5_odds_145 : decode cX5_odds 145 = .ok (.iload 8, 2) := by decide +kernel
theorem dX5_odds_147 : decode cX5_odds 147 = .ok (.ireturn, 1) := by decide +kernel
theorem dX5_sees_0 : decode cX5_sees 0 = .ok (.aload_n 0, 1) := by decide +kernel
theorem dX5_sees_1 : decode cX5_sees 1 = .ok (.iload_n 1, 1) := by decide +kernel
theorem dX5_sees_2 : decode cX5_sees 2 = .ok (.invokevirtual 92, 3) := by decide +kernel
theorem dX5_sees_5 : decode cX5_sees 5 = .ok (.ifCond .eq 24, 3) := by decide +kernel
theorem dX5_sees_8 : decode cX5_sees 8 = .ok (.iload_n 2, 1) := by decide +kernel
theorem dX5_sees_9 : decode cX5_sees 9 = .ok (.iconst 1, 1) := by decide +kernel
theorem dX5_sees_10 : decode cX5_sees 10 = .ok (.if_icmp .lt 19, 3) := by decide +kernel
theorem dX5_sees_13 : decode cX5_sees 13 = .ok (.iload_n 2, 1) := by decide +kernel
theorem dX5_sees_14 : decode cX5_sees 14 = .ok (.bipush 20, 2) := by decide +kernel
theorem dX5_sees_16 : decode cX5_sees 16 = .ok (.if_icmp .gt 13, 3) := by decide +kernel
theorem dX5_sees_19 : decode cX5_sees 19 = .ok (.iload_n 3, 1) := by decide +kernel
theorem dX5_sees_20 : decode cX5_sees 20 = .ok (.ifCond .lt 9, 3) := by decide +kernel
theorem dX5_sees_23 : decode cX5_sees 23 = .ok (.iload_n 3, 1) := by decide +kernel
theorem dX5_sees_24 : decode cX5_sees 24 = .ok (.bipush 10, 2) := by decide +kernel
theorem dX5_sees_26 : decode cX5_sees 26 = .ok (.if_icmp .le 5, 3) := by decide +kernel
theorem dX5_sees_29 : decode cX5_sees 29 = .ok (.iconst (-1), 1) := by decide +kernel
theorem dX5_sees_30 : decode cX5_sees 30 = .ok (.ireturn, 1) := by decide +kernel
theorem dX5_sees_31 : decode cX5_sees 31 = .ok (.aload_n 0, 1) := by decide +kernel
theorem dX5_sees_32 : decode cX5_sees 32 = .ok (.getfield 52, 3) := by decide +kernel
theorem dX5_sees_35 : decode cX5_sees 35 = .ok (.iload_n 1, 1) := by decide +kernel
theorem dX5_sees_36 : decode cX5_sees 36 = .ok (.iload_n 2, 1) := by decide +kernel
theorem dX5_sees_37 : decode cX5_sees 37 = .ok (.iload_n 3, 1) := by decide +kernel
theorem dX5_sees_38 : decode cX5_sees 38 = .ok (.invokevirtual 200, 3) := by decide +kernel
theorem dX5_sees_41 : decode cX5_sees 41 = .ok (.ifCond .eq 13, 3) := by decide +kernel
theorem dX5_sees_44 : decode cX5_sees 44 = .ok (.aload_n 0, 1) := by decide +kernel
theorem dX5_sees_45 : decode cX5_sees 45 = .ok (.getfield 52, 3) := by decide +kernel
theorem dX5_sees_48 : decode cX5_sees 48 = .ok (.getfield 91, 3) := by decide +kernel
theorem dX5_sees_51 : decode cX5_sees 51 = .ok (.goto 5, 3) := by decide +kernel
theorem dX5_sees_54 : decode cX5_sees 54 = .ok (.bipush (-3), 2) := by decide +kernel
theorem dX5_sees_56 : decode cX5_sees 56 = .ok (.ireturn, 1) := by decide +kernel
theorem dX5_forget_0 : decode cX5_forget 0 = .ok (.aload_n 0, 1) := by decide +kernel
theorem dX5_forget_1 : decode cX5_forget 1 = .ok (.getfield 52, 3) := by decide +kernel
theorem dX5_forget_4 : decode cX5_forget 4 = .ok (.getfield 91, 3) := by decide +kernel
theorem dX5_forget_7 : decode cX5_forget 7 = .ok (.istore_n 1, 1) := by decide +kernel
theorem dX5_forget_8 : decode cX5_forget 8 = .ok (.aload_n 0, 1) := by decide +kernel
theorem dX5_forget_9 : decode cX5_forget 9 = .ok (.getfield 52, 3) := by decide +kernel
theorem dX5_forget_12 : decode cX5_forget 12 = .ok (.iconst 0, 1) := by decide +kernel
theorem dX5_forget_13 : decode cX5_forget 13 = .ok (.putfield 91, 3) := by decide +kernel
theorem dX5_forget_16 : decode cX5_forget 16 = .ok (.iload_n 1, 1) := by decide +kernel
theorem dX5_forget_17 : decode cX5_forget 17 = .ok (.ireturn, 1) := by decide +kernel
theorem dX5_weights_0 : decode cX5_weights 0 = .ok (.aload_n 0, 1) := by decide +kernel
theorem dX5_weights_1 : decode cX5_weights 1 = .ok (.iload_n 1, 1) := by decide +kernel
theorem dX5_weights_2 : decode cX5_weights 2 = .ok (.invokevirtual 92, 3) := by decide +kernel
theorem dX5_weights_5 : decode cX5_weights 5 = .ok (.ifCond .eq 12, 3) := by decide +kernel
theorem dX5_weights_8 : decode cX5_weights 8 = .ok (.iload_n 2, 1) := by decide +kernel
theorem dX5_weights_9 : decode cX5_weights 9 = .ok (.ifCond .lt 8, 3) := by decide +kernel
theorem dX5_weights_12 : decode cX5_weights 12 = .ok (.iload_n 2, 1) := by decide +kernel
theorem dX5_weights_13 : decode cX5_weights 13 = .ok (.iconst 2, 1) := by decide +kernel
theorem dX5_weights_14 : decode cX5_weights 14 = .ok (.if_icmp .le 5, 3) := by decide +kernel
theorem dX5_weights_17 : decode cX5_weights 17 = .ok (.iconst (-1), 1) := by decide +kernel
theorem dX5_weights_18 : decode cX5_weights 18 = .ok (.ireturn, 1) := by decide +kernel
theorem dX5_weights_19 : decode cX5_weights 19 = .ok (.aload_n 0, 1) := by decide +kernel
theorem dX5_weights_20 : decode cX5_weights 20 = .ok (.iload_n 1, 1) := by decide +kernel
theorem dX5_weights_21 : decode cX5_weights 21 = .ok (.invokevirtual 202, 3) := by decide +kernel
theorem dX5_weights_24 : decode cX5_weights 24 = .ok (.lstore_n 3, 1) := by decide +kernel
theorem dX5_weights_25 : decode cX5_weights 25 = .ok (.iload_n 2, 1) := by decide +kernel
theorem dX5_weights_26 : decode cX5_weights 26 = .ok (.ifCond .ne 8, 3) := by decide +kernel
theorem dX5_weights_29 : decode cX5_weights 29 = .ok (.lload_n 3, 1) := by decide +kernel
theorem dX5_weights_30 : decode cX5_weights 30 = .ok (.invokestatic 206, 3) := by decide +kernel
theorem dX5_weights_33 : decode cX5_weights 33 = .ok (.ireturn, 1) := by decide +kernel
theorem dX5_weights_34 : decode cX5_weights 34 = .ok (.iload_n 2, 1) := by decide +kernel
theorem dX5_weights_35 : decode cX5_weights 35 = .ok (.iconst 1, 1) := by decide +kernel
theorem dX5_weights_36 : decode cX5_weights 36 = .ok (.if_icmp .ne 10, 3) := by decide +kernel
theorem dX5_weights_39 : decode cX5_weights 39 = .ok (.lload_n 3, 1) := by decide +kernel
theorem dX5_weights_40 : decode cX5_weights 40 = .ok (.invokestatic 211, 3) := by decide +kernel
theorem dX5_weights_43 : decode cX5_weights 43 = .ok (.goto 7, 3) := by decide +kernel
theorem dX5_weights_46 : decode cX5_weights 46 = .ok (.lload_n 3, 1) := by decide +kernel
theorem dX5_weights_47 : decode cX5_weights 47 = .ok (.invokestatic 214, 3) := by decide +kernel
theorem dX5_weights_50 : decode cX5_weights 50 = .ok (.ireturn, 1) := by decide +kernel
theorem dX5_look_0 : decode cX5_look 0 = .ok (.aload_n 0, 1) := by decide +kernel
theorem dX5_look_1 : decode cX5_look 1 = .ok (.iload_n 1, 1) := by decide +kernel
theorem dX5_look_2 : decode cX5_look 2 = .ok (.invokevirtual 92, 3) := by decide +kernel
theorem dX5_look_5 : decode cX5_look 5 = .ok (.ifCond .ne 5, 3) := by decide +kernel
theorem dX5_look_8 : decode cX5_look 8 = .ok (.iconst (-1), 1) := by decide +kernel
theorem dX5_look_9 : decode cX5_look 9 = .ok (.ireturn, 1) := by decide +kernel
theorem dX5_look_10 : decode cX5_look 10 = .ok (.aload_n 0, 1) := by decide +kernel
theorem dX5_look_11 : decode cX5_look 11 = .ok (.iload_n 1, 1) := by decide +kernel
theorem dX5_look_12 : decode cX5_look 12 = .ok (.invokevirtual 202, 3) := by decide +kernel
theorem dX5_look_15 : decode cX5_look 15 = .ok (.lstore_n 2, 1) := by decide +kernel
theorem dX5_look_16 : decode cX5_look 16 = .ok (.lload_n 2, 1) := by decide +kernel
theorem dX5_look_17 : decode cX5_look 17 = .ok (.invokestatic 206, 3) := by decide +kernel
theorem dX5_look_20 : decode cX5_look 20 = .ok (.iconst 1, 1) := by decide +kernel
theorem dX5_look_21 : decode cX5_look 21 = .ok (.if_icmp .gt 6, 3) := by decide +kernel
theorem dX5_look_24 : decode cX5_look 24 = .ok (.bipush (-9), 2) := by decide +kernel
theorem dX5_look_26 : decode cX5_look 26 = .ok (.ireturn, 1) := by decide +kernel
theorem dX5_look_27 : decode cX5_look 27 = .ok (.bipush (-9), 2) := by decide +kernel
theorem dX5_look_29 : decode cX5_look 29 = .ok (.istore 4, 2) := by decide +kernel
theorem dX5_look_31 : decode cX5_look 31 = .ok (.bipush 42, 2) := by decide +kernel
theorem dX5_look_33 : decode cX5_look 33 = .ok (.istore 5, 2) := by decide +kernel
theorem dX5_look_35 : decode cX5_look 35 = .ok (.iconst 1, 1) := by decide +kernel
theorem dX5_look_36 : decode cX5_look 36 = .ok (.istore 6, 2) := by decide +kernel
theorem dX5_look_38 : decode cX5_look 38 = .ok (.iload 6, 2) := by decide +kernel
theorem dX5_look_40 : decode cX5_look 40 = .ok (.bipush 20, 2) := by decide +kernel
theorem dX5_look_42 : decode cX5_look 42 = .ok (.if_icmp .gt 34, 3) := by decide +kernel
theorem dX5_look_45 : decode cX5_look 45 = .ok (.aload_n 0, 1) := by decide +kernel
theorem dX5_look_46 : decode cX5_look 46 = .ok (.iload_n 1, 1) := by decide +kernel
theorem dX5_look_47 : decode cX5_look 47 = .ok (.iload 6, 2) := by decide +kernel
theorem dX5_look_49 : decode cX5_look 49 = .ok (.lload_n 2, 1) := by decide +kernel
theorem dX5_look_50 : decode cX5_look 50 = .ok (.invokevirtual 217, 3) := by decide +kernel
theorem dX5_look_53 : decode cX5_look 53 = .ok (.istore 7, 2) := by decide +kernel
theorem dX5_look_55 : decode cX5_look 55 = .ok (.iload 7, 2) := by decide +kernel
theorem dX5_look_57 : decode cX5_look 57 = .ok (.iload 5, 2) := by decide +kernel
theorem dX5_look_59 : decode cX5_look 59 = .ok (.if_icmp .ge 11, 3) := by decide +kernel
theorem dX5_look_62 : decode cX5_look 62 = .ok (.iload 7, 2) := by decide +kernel
theorem dX5_look_64 : decode cX5_look 64 = .ok (.istore 5, 2) := by decide +kernel
theorem dX5_look_66 : decode cX5_look 66 = .ok (.iload 6, 2) := by decide +kernel
theorem dX5_look_68 : decode cX5_look 68 = .ok (.istore 4, 2) := by decide +kernel
theorem dX5_look_70 : decode cX5_look 70 = .ok (.iinc 6 1, 3) := by decide +kernel
theorem dX5_look_73 : decode cX5_look 73 = .ok (.goto (-35), 3) := by decide +kernel
theorem dX5_look_76 : decode cX5_look 76 = .ok (.iload 4, 2) := by decide +kernel
theorem dX5_look_78 : decode cX5_look 78 = .ok (.ireturn, 1) := by decide +kernel
theorem dX5_rate_0 : decode cX5_rate 0 = .ok (.aload_n 0, 1) := by decide +kernel
theorem dX5_rate_1 : decode cX5_rate 1 = .ok (.iload_n 2, 1) := by decide +kernel
theorem dX5_rate_2 : decode cX5_rate 2 = .ok (.invokevirtual 92, 3) := by decide +kernel
theorem dX5_rate_5 : decode cX5_rate 5 = .ok (.ifCond .ne 6, 3) := by decide +kernel
theorem dX5_rate_8 : decode cX5_rate 8 = .ok (.ldc 221, 2) := by decide +kernel
theorem dX5_rate_10 : decode cX5_rate 10 = .ok (.ireturn, 1) := by decide +kernel
theorem dX5_rate_11 : decode cX5_rate 11 = .ok (.iload_n 1, 1) := by decide +kernel
theorem dX5_rate_12 : decode cX5_rate 12 = .ok (.tableswitch 76 0 5 #[40, 46, 52, 58, 64, 70], 40) := by decide +kernel
theorem dX5_rate_52 : decode cX5_rate 52 = .ok (.aload_n 0, 1) := by decide +kernel
theorem dX5_rate_53 : decode cX5_rate 53 = .ok (.iload_n 2, 1) := by decide +kernel
theorem dX5_rate_54 : decode cX5_rate 54 = .ok (.invokevirtual 222, 3) := by decide +kernel
theorem dX5_rate_57 : decode cX5_rate 57 = .ok (.ireturn, 1) := by decide +kernel
theorem dX5_rate_58 : decode cX5_rate 58 = .ok (.aload_n 0, 1) := by decide +kernel
theorem dX5_rate_59 : decode cX5_rate 59 = .ok (.iload_n 2, 1) := by decide +kernel
theorem dX5_rate_60 : decode cX5_rate 60 = .ok (.invokevirtual 225, 3) := by decide +kernel
theorem dX5_rate_63 : decode cX5_rate 63 = .ok (.ireturn, 1) := by decide +kernel
theorem dX5_rate_64 : decode cX5_rate 64 = .ok (.aload_n 0, 1) := by decide +kernel
theorem dX5_rate_65 : decode cX5_rate 65 = .ok (.iload_n 2, 1) := by decide +kernel
theorem dX5_rate_66 : decode cX5_rate 66 = .ok (.invokevirtual 228, 3) := by decide +kernel
theorem dX5_rate_69 : decode cX5_rate 69 = .ok (.ireturn, 1) := by decide +kernel
theorem dX5_rate_70 : decode cX5_rate 70 = .ok (.aload_n 0, 1) := by decide +kernel
theorem dX5_rate_71 : decode cX5_rate 71 = .ok (.iload_n 2, 1) := by decide +kernel
theorem dX5_rate_72 : decode cX5_rate 72 = .ok (.invokevirtual 231, 3) := by decide +kernel
theorem dX5_rate_75 : decode cX5_rate 75 = .ok (.ireturn, 1) := by decide +kernel
theorem dX5_rate_76 : decode cX5_rate 76 = .ok (.aload_n 0, 1) := by decide +kernel
theorem dX5_rate_77 : decode cX5_rate 77 = .ok (.iload_n 2, 1) := by decide +kernel
theorem dX5_rate_78 : decode cX5_rate 78 = .ok (.invokevirtual 234, 3) := by decide +kernel
theorem dX5_rate_81 : decode cX5_rate 81 = .ok (.ireturn, 1) := by decide +kernel
theorem dX5_rate_82 : decode cX5_rate 82 = .ok (.aload_n 0, 1) := by decide +kernel
theorem dX5_rate_83 : decode cX5_rate 83 = .ok (.iload_n 2, 1) := by decide +kernel
theorem dX5_rate_84 : decode cX5_rate 84 = .ok (.invokevirtual 237, 3) := by decide +kernel
theorem dX5_rate_87 : decode cX5_rate 87 = .ok (.ireturn, 1) := by decide +kernel
theorem dX5_rate_88 : decode cX5_rate 88 = .ok (.ldc 221, 2) := by decide +kernel
theorem dX5_rate_90 : decode cX5_rate 90 = .ok (.ireturn, 1) := by decide +kernel
theorem dX5_keep_0 : decode cX5_keep 0 = .ok (.iload_n 1, 1) := by decide +kernel
theorem dX5_keep_1 : decode cX5_keep 1 = .ok (.ifCond .lt 8, 3) := by decide +kernel
theorem dX5_keep_4 : decode cX5_keep 4 = .ok (.iload_n 1, 1) := by decide +kernel
theorem dX5_keep_5 : decode cX5_keep 5 = .ok (.iconst 1, 1) := by decide +kernel
theorem dX5_keep_6 : decode cX5_keep 6 = .ok (.if_icmp .le 5, 3) := by decide +kernel
theorem dX5_keep_9 : decode cX5_keep 9 = .ok (.iconst (-1), 1) := by decide +kernel
theorem dX5_keep_10 : decode cX5_keep 10 = .ok (.ireturn, 1) := by decide +kernel
theorem dX5_keep_11 : decode cX5_keep 11 = .ok (.aload_n 0, 1) := by decide +kernel
theorem dX5_keep_12 : decode cX5_keep 12 = .ok (.iload_n 1, 1) := by decide +kernel
theorem dX5_keep_13 : decode cX5_keep 13 = .ok (.invokevirtual 240, 3) := by decide +kernel
theorem dX5_keep_16 : decode cX5_keep 16 = .ok (.aload_n 0, 1) := by decide +kernel
theorem dX5_keep_17 : decode cX5_keep 17 = .ok (.getfield 29, 3) := by decide +kernel
theorem dX5_keep_20 : decode cX5_keep 20 = .ok (.invokevirtual 173, 3) := by decide +kernel
theorem dX5_keep_23 : decode cX5_keep 23 = .ok (.aload_n 0, 1) := by decide +kernel
theorem dX5_keep_24 : decode cX5_keep 24 = .ok (.dup, 1) := by decide +kernel
theorem dX5_keep_25 : decode cX5_keep 25 = .ok (.getfield 88, 3) := by decide +kernel
theorem dX5_keep_28 : decode cX5_keep 28 = .ok (.iconst 1, 1) := by decide +kernel
theorem dX5_keep_29 : decode cX5_keep 29 = .ok (.iload_n 1, 1) := by decide +kernel
theorem dX5_keep_30 : decode cX5_keep 30 = .ok (.ishl, 1) := by decide +kernel
theorem dX5_keep_31 : decode cX5_keep 31 = .ok (.ior, 1) := by decide +kernel
theorem dX5_keep_32 : decode cX5_keep 32 = .ok (.putfield 88, 3) := by decide +kernel
theorem dX5_keep_35 : decode cX5_keep 35 = .ok (.aload_n 0, 1) := by decide +kernel
theorem dX5_keep_36 : decode cX5_keep 36 = .ok (.getfield 29, 3) := by decide +kernel
theorem dX5_keep_39 : decode cX5_keep 39 = .ok (.getfield 116, 3) := by decide +kernel
theorem dX5_keep_42 : decode cX5_keep 42 = .ok (.ireturn, 1) := by decide +kernel
theorem dX5_back_0 : decode cX5_back 0 = .ok (.iload_n 1, 1) := by decide +kernel
theorem dX5_back_1 : decode cX5_back 1 = .ok (.ifCond .lt 8, 3) := by decide +kernel
theorem dX5_back_4 : decode cX5_back 4 = .ok (.iload_n 1, 1) := by decide +kernel
theorem dX5_back_5 : decode cX5_back 5 = .ok (.iconst 1, 1) := by decide +kernel
theorem dX5_back_6 : decode cX5_back 6 = .ok (.if_icmp .le 5, 3) := by decide +kernel
theorem dX5_back_9 : decode cX5_back 9 = .ok (.iconst (-1), 1) := by decide +kernel
theorem dX5_back_10 : decode cX5_back 10 = .ok (.ireturn, 1) := by decide +kernel
theorem dX5_back_11 : decode cX5_back 11 = .ok (.aload_n 0, 1) := by decide +kernel
theorem dX5_back_12 : decode cX5_back 12 = .ok (.getfield 88, 3) := by decide +kernel
theorem dX5_back_15 : decode cX5_back 15 = .ok (.iload_n 1, 1) := by decide +kernel
theorem dX5_back_16 : decode cX5_back 16 = .ok (.ishr, 1) := by decide +kernel
theorem dX5_back_17 : decode cX5_back 17 = .ok (.iconst 1, 1) := by decide +kernel
theorem dX5_back_18 : decode cX5_back 18 = .ok (.iand, 1) := by decide +kernel
theorem dX5_back_19 : decode cX5_back 19 = .ok (.ifCond .ne 6, 3) := by decide +kernel
theorem dX5_back_22 : decode cX5_back 22 = .ok (.bipush (-2), 2) := by decide +kernel
theorem dX5_back_24 : decode cX5_back 24 = .ok (.ireturn, 1) := by decide +kernel
theorem dX5_back_25 : decode cX5_back 25 = .ok (.aload_n 0, 1) := by decide +kernel
theorem dX5_back_26 : decode cX5_back 26 = .ok (.getfield 29, 3) := by decide +kernel
theorem dX5_back_29 : decode cX5_back 29 = .ok (.aload_n 0, 1) := by decide +kernel
theorem dX5_back_30 : decode cX5_back 30 = .ok (.iload_n 1, 1) := by decide +kernel
theorem dX5_back_31 : decode cX5_back 31 = .ok (.invokevirtual 240, 3) := by decide +kernel
theorem dX5_back_34 : decode cX5_back 34 = .ok (.invokevirtual 173, 3) := by decide +kernel
theorem dX5_back_37 : decode cX5_back 37 = .ok (.aload_n 0, 1) := by decide +kernel
theorem dX5_back_38 : decode cX5_back 38 = .ok (.getfield 39, 3) := by decide +kernel
theorem dX5_back_41 : decode cX5_back 41 = .ok (.iconst 0, 1) := by decide +kernel
theorem dX5_back_42 : decode cX5_back 42 = .ok (.putfield 85, 3) := by decide +kernel
theorem dX5_back_45 : decode cX5_back 45 = .ok (.aload_n 0, 1) := by decide +kernel
theorem dX5_back_46 : decode cX5_back 46 = .ok (.getfield 29, 3) := by decide +kernel
theorem dX5_back_49 : decode cX5_back 49 = .ok (.getfield 116, 3) := by decide +kernel
theorem dX5_back_52 : decode cX5_back 52 = .ok (.ireturn, 1) := by decide +kernel
theorem dX5_count_0 : decode cX5_count 0 = .ok (.iload_n 1, 1) := by decide +kernel
theorem dX5_count_1 : decode cX5_count 1 = .ok (.tableswitch 87 0 5 #[39, 47, 55, 63, 71, 79], 39) := by decide +kernel
theorem dX5_count_40 : decode cX5_count 40 = .ok (.aload_n 0, 1) := by decide +kernel
theorem dX5_count_41 : decode cX5_count 41 = .ok (.getfield 19, 3) := by decide +kernel
theorem dX5_count_44 : decode cX5_count 44 = .ok (.getfield 244, 3) := by decide +kernel
theorem dX5_count_47 : decode cX5_count 47 = .ok (.ireturn, 1) := by decide +kernel
theorem dX5_count_48 : decode cX5_count 48 = .ok (.aload_n 0, 1) := by decide +kernel
theorem dX5_count_49 : decode cX5_count 49 = .ok (.getfield 19, 3) := by decide +kernel
theorem dX5_count_52 : decode cX5_count 52 = .ok (.getfield 247, 3) := by decide +kernel
theorem dX5_count_55 : decode cX5_count 55 = .ok (.ireturn, 1) := by decide +kernel
theorem dX5_count_56 : decode cX5_count 56 = .ok (.aload_n 0, 1) := by decide +kernel
theorem dX5_count_57 : decode cX5_count 57 = .ok (.getfield 19, 3) := by decide +kernel
theorem dX5_count_60 : decode cX5_count 60 = .ok (.getfield 248, 3) := by decide +kernel
theorem dX5_count_63 : decode cX5_count 63 = .ok (.ireturn, 1) := by decide +kernel
theorem dX5_count_64 : decode cX5_count 64 = .ok (.aload_n 0, 1) := by decide +kernel
theorem dX5_count_65 : decode cX5_count 65 = .ok (.getfield 19, 3) := by decide +kernel
theorem dX5_count_68 : decode cX5_count 68 = .ok (.getfield 251, 3) := by decide +kernel
theorem dX5_count_71 : decode cX5_count 71 = .ok (.ireturn, 1) := by decide +kernel
theorem dX5_count_72 : decode cX5_count 72 = .ok (.aload_n 0, 1) := by decide +kernel
theorem dX5_count_73 : decode cX5_count 73 = .ok (.getfield 52, 3) := by decide +kernel
theorem dX5_count_76 : decode cX5_count 76 = .ok (.getfield 91, 3) := by decide +kernel
theorem dX5_count_79 : decode cX5_count 79 = .ok (.ireturn, 1) := by decide +kernel
theorem dX5_count_80 : decode cX5_count 80 = .ok (.aload_n 0, 1) := by decide +kernel
theorem dX5_count_81 : decode cX5_count 81 = .ok (.getfield 12, 3) := by decide +kernel
theorem dX5_count_84 : decode cX5_count 84 = .ok (.getfield 74, 3) := by decide +kernel
theorem dX5_count_87 : decode cX5_count 87 = .ok (.ireturn, 1) := by decide +kernel
theorem dX5_count_88 : decode cX5_count 88 = .ok (.iconst (-1), 1) := by decide +kernel
theorem dX5_count_89 : decode cX5_count 89 = .ok (.ireturn, 1) := by decide +kernel
theorem dX5_trace_0 : decode cX5_trace 0 = .ok (.aload_n 0, 1) := by decide +kernel
theorem dX5_trace_1 : decode cX5_trace 1 = .ok (.getfield 254, 3) := by decide +kernel
theorem dX5_trace_4 : decode cX5_trace 4 = .ok (.lreturn, 1) := by decide +kernel
theorem dX5_isTold_0 : decode cX5_isTold 0 = .ok (.iload_n 1, 1) := by decide +kernel
theorem dX5_isTold_1 : decode cX5_isTold 1 = .ok (.ifCond .lt 24, 3) := by decide +kernel
theorem dX5_isTold_4 : decode cX5_isTold 4 = .ok (.iload_n 1, 1) := by decide +kernel
theorem dX5_isTold_5 : decode cX5_isTold 5 = .ok (.bipush 6, 2) := by decide +kernel
theorem dX5_isTold_7 : decode cX5_isTold 7 = .ok (.if_icmp .ge 18, 3) := by decide +kernel
theorem dX5_isTold_10 : decode cX5_isTold 10 = .ok (.iload_n 1, 1) := by decide +kernel
theorem dX5_isTold_11 : decode cX5_isTold 11 = .ok (.aload_n 0, 1) := by decide +kernel
theorem dX5_isTold_12 : decode cX5_isTold 12 = .ok (.getfield 19, 3) := by decide +kernel
theorem dX5_isTold_15 : decode cX5_isTold 15 = .ok (.getfield 244, 3) := by decide +kernel
theorem dX5_isTold_18 : decode cX5_isTold 18 = .ok (.if_icmp .ge 7, 3) := by decide +kernel
theorem dX5_isTold_21 : decode cX5_isTold 21 = .ok (.iconst 1, 1) := by decide +kernel
theorem dX5_isTold_22 : decode cX5_isTold 22 = .ok (.goto 4, 3) := by decide +kernel
theorem dX5_isTold_25 : decode cX5_isTold 25 = .ok (.iconst 0, 1) := by decide +kernel
theorem dX5_isTold_26 : decode cX5_isTold 26 = .ok (.ireturn, 1) := by decide +kernel
theorem dX5_dryOnes_0 : decode cX5_dryOnes 0 = .ok (.aload_n 0, 1) := by decide +kernel
theorem dX5_dryOnes_1 : decode cX5_dryOnes 1 = .ok (.getfield 19, 3) := by decide +kernel
theorem dX5_dryOnes_4 : decode cX5_dryOnes 4 = .ok (.invokevirtual 187, 3) := by decide +kernel
theorem dX5_dryOnes_7 : decode cX5_dryOnes 7 = .ok (.aload_n 0, 1) := by decide +kernel
theorem dX5_dryOnes_8 : decode cX5_dryOnes 8 = .ok (.getfield 29, 3) := by decide +kernel
theorem dX5_dryOnes_11 : decode cX5_dryOnes 11 = .ok (.invokevirtual 158, 3) := by decide +kernel
theorem dX5_dryOnes_14 : decode cX5_dryOnes 14 = .ok (.iconst (-1), 1) := by decide +kernel
theorem dX5_dryOnes_15 : decode cX5_dryOnes 15 = .ok (.ixor, 1) := by decide +kernel
theorem dX5_dryOnes_16 : decode cX5_dryOnes 16 = .ok (.iand, 1) := by decide +kernel
theorem dX5_dryOnes_17 : decode cX5_dryOnes 17 = .ok (.ireturn, 1) := by decide +kernel
theorem dX5_imageOf_0 : decode cX5_imageOf 0 = .ok (.iload_n 1, 1) := by decide +kernel
theorem dX5_imageOf_1 : decode cX5_imageOf 1 = .ok (.ifCond .ne 10, 3) := by decide +kernel
theorem dX5_imageOf_4 : decode cX5_imageOf 4 = .ok (.aload_n 0, 1) := by decide +kernel
theorem dX5_imageOf_5 : decode cX5_imageOf 5 = .ok (.getfield 43, 3) := by decide +kernel
theorem dX5_imageOf_8 : decode cX5_imageOf 8 = .ok (.goto 7, 3) := by decide +kernel
theorem dX5_imageOf_11 : decode cX5_imageOf 11 = .ok (.aload_n 0, 1) := by decide +kernel
theorem dX5_imageOf_12 : decode cX5_imageOf 12 = .ok (.getfield 46, 3) := by decide +kernel
theorem dX5_imageOf_15 : decode cX5_imageOf 15 = .ok (.areturn, 1) := by decide +kernel
theorem dX5_isFewer_0 : decode cX5_isFewer 0 = .ok (.iload_n 1, 1) := by decide +kernel
theorem dX5_isFewer_1 : decode cX5_isFewer 1 = .ok (.bipush (-9), 2) := by decide +kernel
theorem dX5_isFewer_3 : decode cX5_isFewer 3 = .ok (.if_icmp .eq 14, 3) := by decide +kernel
theorem dX5_isFewer_6 : decode cX5_isFewer 6 = .ok (.iload_n 0, 1) := by decide +kernel
theorem dX5_isFewer_7 : decode cX5_isFewer 7 = .ok (.invokestatic 132, 3) := by decide +kernel
theorem dX5_isFewer_10 : decode cX5_isFewer 10 = .ok (.iload_n 1, 1) := by decide +kernel
theorem dX5_isFewer_11 : decode cX5_isFewer 11 = .ok (.invokestatic 132, 3) := by decide +kernel
theorem dX5_isFewer_14 : decode cX5_isFewer 14 = .ok (.if_icmp .ge 7, 3) := by decide +kernel
theorem dX5_isFewer_17 : decode cX5_isFewer 17 = .ok (.iconst 1, 1) := by decide +kernel
theorem dX5_isFewer_18 : decode cX5_isFewer 18 = .ok (.goto 4, 3) := by decide +kernel
theorem dX5_isFewer_21 : decode cX5_isFewer 21 = .ok (.iconst 0, 1) := by decide +kernel
theorem dX5_isFewer_22 : decode cX5_isFewer 22 = .ok (.ireturn, 1) := by decide +kernel
theorem dX5_fewestPots_0 : decode cX5_fewestPots 0 = .ok (.aload_n 0, 1) := by decide +kernel
theorem dX5_fewestPots_1 : decode cX5_fewestPots 1 = .ok (.getfield 19, 3) := by decide +kernel
theorem dX5_fewestPots_4 : decode cX5_fewestPots 4 = .ok (.invokevirtual 187, 3) := by decide +kernel
theorem dX5_fewestPots_7 : decode cX5_fewestPots 7 = .ok (.istore_n 1, 1) := by decide +kernel
theorem dX5_fewestPots_8 : decode cX5_fewestPots 8 = .ok (.iconst 0, 1) := by decide +kernel
theorem dX5_fewestPots_9 : decode cX5_fewestPots 9 = .ok (.istore_n 2, 1) := by decide +kernel
theorem dX5_fewestPots_10 : decode cX5_fewestPots 10 = .ok (.iload_n 2, 1) := by decide +kernel
theorem dX5_fewestPots_11 : decode cX5_fewestPots 11 = .ok (.bipush 6, 2) := by decide +kernel
theorem dX5_fewestPots_13 : decode cX5_fewestPots 13 = .ok (.if_icmp .ge 39, 3) := by decide +kernel
theorem dX5_fewestPots_16 : decode cX5_fewestPots 16 = .ok (.iload_n 1, 1) := by decide +kernel
theorem dX5_fewestPots_17 : decode cX5_fewestPots 17 = .ok (.iload_n 2, 1) := by decide +kernel
theorem dX5_fewestPots_18 : decode cX5_fewestPots 18 = .ok (.ishr, 1) := by decide +kernel
theorem dX5_fewestPots_19 : decode cX5_fewestPots 19 = .ok (.iconst 1, 1) := by decide +kernel
theorem dX5_fewestPots_20 : decode cX5_fewestPots 20 = .ok (.iand, 1) := by decide +kernel
theorem dX5_fewestPots_21 : decode cX5_fewestPots 21 = .ok (.ifCond .eq 25, 3) := by decide +kernel
theorem dX5_fewestPots_24 : decode cX5_fewestPots 24 = .ok (.aload_n 0, 1) := by decide +kernel
theorem dX5_fewestPots_25 : decode cX5_fewestPots 25 = .ok (.getfield 29, 3) := by decide +kernel
theorem dX5_fewestPots_28 : decode cX5_fewestPots 28 = .ok (.getfield 98, 3) := by decide +kernel
theorem dX5_fewestPots_31 : decode cX5_fewestPots 31 = .ok (.iload_n 2, 1) := by decide +kernel
theorem dX5_fewestPots_32 : decode cX5_fewestPots 32 = .ok (.iaload, 1) := by decide +kernel
theorem dX5_fewestPots_33 : decode cX5_fewestPots 33 = .ok (.aload_n 0, 1) := by decide +kernel
theorem dX5_fewestPots_34 : decode cX5_fewestPots 34 = .ok (.getfield 19, 3) := by decide +kernel
theorem dX5_fewestPots_37 : decode cX5_fewestPots 37 = .ok (.getfield 251, 3) := by decide +kernel
theorem dX5_fewestPots_40 : decode cX5_fewestPots 40 = .ok (.if_icmp .le 6, 3) := by decide +kernel
theorem dX5_fewestPots_43 : decode cX5_fewestPots 43 = .ok (.bipush (-9), 2) := by decide +kernel
theorem dX5_fewestPots_45 : decode cX5_fewestPots 45 = .ok (.ireturn, 1) := by decide +kernel
theorem dX5_fewestPots_46 : decode cX5_fewestPots 46 = .ok (.iinc 2 1, 3) := by decide +kernel
theorem dX5_fewestPots_49 : decode cX5_fewestPots 49 = .ok (.goto (-39), 3) := by decide +kernel
theorem dX5_fewestPots_52 : decode cX5_fewestPots 52 = .ok (.iconst 0, 1) := by decide +kernel
theorem dX5_fewestPots_53 : decode cX5_fewestPots 53 = .ok (.istore_n 2, 1) := by decide +kernel
theorem dX5_fewestPots_54 : decode cX5_fewestPots 54 = .ok (.iconst 1, 1) := by decide +kernel
theorem dX5_fewestPots_55 : decode cX5_fewestPots 55 = .ok (.istore_n 3, 1) := by decide +kernel
theorem dX5_fewestPots_56 : decode cX5_fewestPots 56 = .ok (.iload_n 3, 1) := by decide +kernel
theorem dX5_fewestPots_57 : decode cX5_fewestPots 57 = .ok (.bipush 64, 2) := by decide +kernel
theorem dX5_fewestPots_59 : decode cX5_fewestPots 59 = .ok (.if_icmp .ge 27, 3) := by decide +kernel
theorem dX5_fewestPots_62 : decode cX5_fewestPots 62 = .ok (.iload_n 3, 1) := by decide +kernel
theorem dX5_fewestPots_63 : decode cX5_fewestPots 63 = .ok (.iload_n 1, 1) := by decide +kernel
theorem dX5_fewestPots_64 : decode cX5_fewestPots 64 = .ok (.if_icmp .gt 22, 3) := by decide +kernel
theorem dX5_fewestPots_67 : decode cX5_fewestPots 67 = .ok (.aload_n 0, 1) := by decide +kernel
theorem dX5_fewestPots_68 : decode cX5_fewestPots 68 = .ok (.iload_n 3, 1) := by decide +kernel
theorem dX5_fewestPots_69 : decode cX5_fewestPots 69 = .ok (.invokevirtual 258, 3) := by decide +kernel
theorem dX5_fewestPots_72 : decode cX5_fewestPots 72 = .ok (.istore_n 2, 1) := by decide +kernel
theorem dX5_fewestPots_73 : decode cX5_fewestPots 73 = .ok (.aload_n 0, 1) := by decide +kernel
theorem dX5_fewestPots_74 : decode cX5_fewestPots 74 = .ok (.getfield 56, 3) := by decide +kernel
theorem dX5_fewestPots_77 : decode cX5_fewestPots 77 = .ok (.iload_n 3, 1) := by decide +kernel
theorem dX5_fewestPots_78 : decode cX5_fewestPots 78 = .ok (.iload_n 2, 1) := by decide +kernel
theorem dX5_fewestPots_79 : decode cX5_fewestPots 79 = .ok (.iastore, 1) := by decide +kernel
theorem dX5_fewestPots_80 : decode cX5_fewestPots 80 = .ok (.iinc 3 1, 3) := by decide +kernel
theorem dX5_fewestPots_83 : decode cX5_fewestPots 83 = .ok (.goto (-27), 3) := by decide +kernel
theorem dX5_fewestPots_86 : decode cX5_fewestPots 86 = .ok (.iload_n 2, 1) := by decide +kernel
theorem dX5_fewestPots_87 : decode cX5_fewestPots 87 = .ok (.ireturn, 1) := by decide +kernel
theorem dX5_fewestPotsOf_0 : decode cX5_fewestPotsOf 0 = .ok (.bipush 6, 2) := by decide +kernel
theorem dX5_fewestPotsOf_2 : decode cX5_fewestPotsOf 2 = .ok (.istore_n 2, 1) := by decide +kernel
theorem dX5_fewestPotsOf_3 : decode cX5_fewestPotsOf 3 = .ok (.iconst 1, 1) := by decide +kernel
theorem dX5_fewestPotsOf_4 : decode cX5_fewestPotsOf 4 = .ok (.istore_n 3, 1) := by decide +kernel
theorem dX5_fewestPotsOf_5 : decode cX5_fewestPotsOf 5 = .ok (.iload_n 3, 1) := by decide +kernel
theorem dX5_fewestPotsOf_6 : decode cX5_fewestPotsOf 6 = .ok (.iload_n 1, 1) := by decide +kernel
theorem dX5_fewestPotsOf_7 : decode cX5_fewestPotsOf 7 = .ok (.if_icmp .gt 52, 3) := by decide +kernel
theorem dX5_fewestPotsOf_10 : decode cX5_fewestPotsOf 10 = .ok (.iload_n 3, 1) := by decide +kernel
theorem dX5_fewestPotsOf_11 : decode cX5_fewestPotsOf 11 = .ok (.iload_n 1, 1) := by decide +kernel
theorem dX5_fewestPotsOf_12 : decode cX5_fewestPotsOf 12 = .ok (.iconst (-1), 1) := by decide +kernel
theorem dX5_fewestPotsOf_13 : decode cX5_fewestPotsOf 13 = .ok (.ixor, 1) := by decide +kernel
theorem dX5_fewestPotsOf_14 : decode cX5_fewestPotsOf 14 = .ok (.iand, 1) := by decide +kernel
theorem dX5_fewestPotsOf_15 : decode cX5_fewestPotsOf 15 = .ok (.ifCond .ne 38, 3) := by decide +kernel
theorem dX5_fewestPotsOf_18 : decode cX5_fewestPotsOf 18 = .ok (.aload_n 0, 1) := by decide +kernel
theorem dX5_fewestPotsOf_19 : decode cX5_fewestPotsOf 19 = .ok (.getfield 29, 3) := by decide +kernel
theorem dX5_fewestPotsOf_22 : decode cX5_fewestPotsOf 22 = .ok (.iload_n 3, 1) := by decide +kernel
theorem dX5_fewestPotsOf_23 : decode cX5_fewestPotsOf 23 = .ok (.invokevirtual 261, 3) := by decide +kernel
theorem dX5_fewestPotsOf_26 : decode cX5_fewestPotsOf 26 = .ok (.aload_n 0, 1) := by decide +kernel
theorem dX5_fewestPotsOf_27 : decode cX5_fewestPotsOf 27 = .ok (.getfield 19, 3) := by decide +kernel
theorem dX5_fewestPotsOf_30 : decode cX5_fewestPotsOf 30 = .ok (.getfield 251, 3) := by decide +kernel
theorem dX5_fewestPotsOf_33 : decode cX5_fewestPotsOf 33 = .ok (.if_icmp .gt 20, 3) := by decide +kernel
theorem dX5_fewestPotsOf_36 : decode cX5_fewestPotsOf 36 = .ok (.iload_n 2, 1) := by decide +kernel
theorem dX5_fewestPotsOf_37 : decode cX5_fewestPotsOf 37 = .ok (.iconst 1, 1) := by decide +kernel
theorem dX5_fewestPotsOf_38 : decode cX5_fewestPotsOf 38 = .ok (.aload_n 0, 1) := by decide +kernel
theorem dX5_fewestPotsOf_39 : decode cX5_fewestPotsOf 39 = .ok (.getfield 56, 3) := by decide +kernel
theorem dX5_fewestPotsOf_42 : decode cX5_fewestPotsOf 42 = .ok (.iload_n 1, 1) := by decide +kernel
theorem dX5_fewestPotsOf_43 : decode cX5_fewestPotsOf 43 = .ok (.iload_n 3, 1) := by decide +kernel
theorem dX5_fewestPotsOf_44 : decode cX5_fewestPotsOf 44 = .ok (.iconst (-1), 1) := by decide +kernel
theorem dX5_fewestPotsOf_45 : decode cX5_fewestPotsOf 45 = .ok (.ixor, 1) := by decide +kernel
theorem dX5_fewestPotsOf_46 : decode cX5_fewestPotsOf 46 = .ok (.iand, 1) := by decide +kernel
theorem dX5_fewestPotsOf_47 : decode cX5_fewestPotsOf 47 = .ok (.iaload, 1) := by decide +kernel
theorem dX5_fewestPotsOf_48 : decode cX5_fewestPotsOf 48 = .ok (.iadd, 1) := by decide +kernel
theorem dX5_fewestPotsOf_49 : decode cX5_fewestPotsOf 49 = .ok (.invokestatic 264, 3) := by decide +kernel
theorem dX5_fewestPotsOf_52 : decode cX5_fewestPotsOf 52 = .ok (.istore_n 2, 1) := by decide +kernel
theorem dX5_fewestPotsOf_53 : decode cX5_fewestPotsOf 53 = .ok (.iinc 3 1, 3) := by decide +kernel
theorem dX5_fewestPotsOf_56 : decode cX5_fewestPotsOf 56 = .ok (.goto (-51), 3) := by decide +kernel
theorem dX5_fewestPotsOf_59 : decode cX5_fewestPotsOf 59 = .ok (.iload_n 2, 1) := by decide +kernel
theorem dX5_fewestPotsOf_60 : decode cX5_fewestPotsOf 60 = .ok (.ireturn, 1) := by decide +kernel
theorem dX5_minutesTillUp_0 : decode cX5_minutesTillUp 0 = .ok (.aload_n 0, 1) := by decide +kernel
theorem dX5_minutesTillUp_1 : decode cX5_minutesTillUp 1 = .ok (.getfield 33, 3) := by decide +kernel
theorem dX5_minutesTillUp_4 : decode cX5_minutesTillUp 4 = .ok (.aload_n 0, 1) := by decide +kernel
theorem dX5_minutesTillUp_5 : decode cX5_minutesTillUp 5 = .ok (.getfield 29, 3) := by decide +kernel
theorem dX5_minutesTillUp_8 : decode cX5_minutesTillUp 8 = .ok (.invokevirtual 173, 3) := by decide +kernel
theorem dX5_minutesTillUp_11 : decode cX5_minutesTillUp 11 = .ok (.aload_n 0, 1) := by decide +kernel
theorem dX5_minutesTillUp_12 : decode cX5_minutesTillUp 12 = .ok (.getfield 33, 3) := by decide +kernel
theorem dX5_minutesTillUp_15 : decode cX5_minutesTillUp 15 = .ok (.iload_n 3, 1) := by decide +kernel
theorem dX5_minutesTillUp_16 : decode cX5_minutesTillUp 16 = .ok (.putfield 119, 3) := by decide +kernel
theorem dX5_minutesTillUp_19 : decode cX5_minutesTillUp 19 = .ok (.iconst 0, 1) := by decide +kernel
theorem dX5_minutesTillUp_20 : decode cX5_minutesTillUp 20 = .ok (.istore 4, 2) := by decide +kernel
theorem dX5_minutesTillUp_22 : decode cX5_minutesTillUp 22 = .ok (.iload 4, 2) := by decide +kernel
theorem dX5_minutesTillUp_24 : decode cX5_minutesTillUp 24 = .ok (.iload_n 2, 1) := by decide +kernel
theorem dX5_minutesTillUp_25 : decode cX5_minutesTillUp 25 = .ok (.if_icmp .gt 35, 3) := by decide +kernel
theorem dX5_minutesTillUp_28 : decode cX5_minutesTillUp 28 = .ok (.aload_n 0, 1) := by decide +kernel
theorem dX5_minutesTillUp_29 : decode cX5_minutesTillUp 29 = .ok (.getfield 33, 3) := by decide +kernel
theorem dX5_minutesTillUp_32 : decode cX5_minutesTillUp 32 = .ok (.getfield 107, 3) := by decide +kernel
theorem dX5_minutesTillUp_35 : decode cX5_minutesTillUp 35 = .ok (.iload_n 1, 1) := by decide +kernel
theorem dX5_minutesTillUp_36 : decode cX5_minutesTillUp 36 = .ok (.iaload, 1) := by decide +kernel
theorem dX5_minutesTillUp_37 : decode cX5_minutesTillUp 37 = .ok (.ifCond .ne 6, 3) := by decide +kernel
theorem dX5_minutesTillUp_40 : decode cX5_minutesTillUp 40 = .ok (.iload 4, 2) := by decide +kernel
theorem dX5_minutesTillUp_42 : decode cX5_minutesTillUp 42 = .ok (.ireturn, 1) := by decide +kernel
theorem dX5_minutesTillUp_43 : decode cX5_minutesTillUp 43 = .ok (.aload_n 0, 1) := by decide +kernel
theorem dX5_minutesTillUp_44 : decode cX5_minutesTillUp 44 = .ok (.getfield 33, 3) := by decide +kernel
theorem dX5_minutesTillUp_47 : decode cX5_minutesTillUp 47 = .ok (.aload_n 0, 1) := by decide +kernel
theorem dX5_minutesTillUp_48 : decode cX5_minutesTillUp 48 = .ok (.getfield 19, 3) := by decide +kernel
theorem dX5_minutesTillUp_51 : decode cX5_minutesTillUp 51 = .ok (.invokevirtual 161, 3) := by decide +kernel
theorem dX5_minutesTillUp_54 : decode cX5_minutesTillUp 54 = .ok (.iinc 4 1, 3) := by decide +kernel
theorem dX5_minutesTillUp_57 : decode cX5_minutesTillUp 57 = .ok (.goto (-35), 3) := by decide +kernel
theorem dX5_minutesTillUp_60 : decode cX5_minutesTillUp 60 = .ok (.bipush (-9), 2) := by decide +kernel
theorem dX5_minutesTillUp_62 : decode cX5_minutesTillUp 62 = .ok (.ireturn, 1) := by decide +kernel
theorem dX5_risesFirst_0 : decode cX5_risesFirst 0 = .ok (.aload_n 0, 1) := by decide +kernel
theorem dX5_risesFirst_1 : decode cX5_risesFirst 1 = .ok (.getfield 33, 3) := by decide +kernel
theorem dX5_risesFirst_4 : decode cX5_risesFirst 4 = .ok (.aload_n 0, 1) := by decide +kernel
theorem dX5_risesFirst_5 : decode cX5_risesFirst 5 = .ok (.getfield 29, 3) := by decide +kernel
theorem dX5_risesFirst_8 : decode cX5_risesFirst 8 = .ok (.invokevirtual 173, 3) := by decide +kernel
theorem dX5_risesFirst_11 : decode cX5_risesFirst 11 = .ok (.iconst 0, 1) := by decide +kernel
theorem dX5_risesFirst_12 : decode cX5_risesFirst 12 = .ok (.istore 4, 2) := by decide +kernel
theorem dX5_risesFirst_14 : decode cX5_risesFirst 14 = .ok (.iload 4, 2) := by decide +kernel
theorem dX5_risesFirst_16 : decode cX5_risesFirst 16 = .ok (.bipush 6, 2) := by decide +kernel
theorem dX5_risesFirst_18 : decode cX5_risesFirst 18 = .ok (.if_icmp .ge 27, 3) := by decide +kernel
theorem dX5_risesFirst_21 : decode cX5_risesFirst 21 = .ok (.iload_n 3, 1) := by decide +kernel
theorem dX5_risesFirst_22 : decode cX5_risesFirst 22 = .ok (.iload 4, 2) := by decide +kernel
theorem dX5_risesFirst_24 : decode cX5_risesFirst 24 = .ok (.ishr, 1) := by decide +kernel
theorem dX5_risesFirst_25 : decode cX5_risesFirst 25 = .ok (.iconst 1, 1) := by decide +kernel
theorem dX5_risesFirst_26 : decode cX5_risesFirst 26 = .ok (.iand, 1) := by decide +kernel
theorem dX5_risesFirst_27 : decode cX5_risesFirst 27 = .ok (.ifCond .eq 12, 3) := by decide +kernel
theorem dX5_risesFirst_30 : decode cX5_risesFirst 30 = .ok (.aload_n 0, 1) := by decide +kernel
theorem dX5_risesFirst_31 : decode cX5_risesFirst 31 = .ok (.getfield 33, 3) := by decide +kernel
theorem dX5_risesFirst_34 : decode cX5_risesFirst 34 = .ok (.iload 4, 2) := by decide +kernel
theorem dX5_risesFirst_36 : decode cX5_risesFirst 36 = .ok (.invokevirtual 154, 3) := by decide +kernel
theorem dX5_risesFirst_39 : decode cX5_risesFirst 39 = .ok (.iinc 4 1, 3) := by decide +kernel
theorem dX5_risesFirst_42 : decode cX5_risesFirst 42 = .ok (.goto (-28), 3) := by decide +kernel
theorem dX5_risesFirst_45 : decode cX5_risesFirst 45 = .ok (.iconst 0, 1) := by decide +kernel
theorem dX5_risesFirst_46 : decode cX5_risesFirst 46 = .ok (.istore 4, 2) := by decide +kernel
theorem dX5_risesFirst_48 : decode cX5_risesFirst 48 = .ok (.iload 4, 2) := by decide +kernel
theorem dX5_risesFirst_50 : decode cX5_risesFirst 50 = .ok (.iload_n 2, 1) := by decide +kernel
theorem dX5_risesFirst_51 : decode cX5_risesFirst 51 = .ok (.if_icmp .ge 48, 3) := by decide +kernel
theorem dX5_risesFirst_54 : decode cX5_risesFirst 54 = .ok (.aload_n 0, 1) := by decide +kernel
theorem dX5_risesFirst_55 : decode cX5_risesFirst 55 = .ok (.getfield 33, 3) := by decide +kernel
theorem dX5_risesFirst_58 : decode cX5_risesFirst 58 = .ok (.aload_n 0, 1) := by decide +kernel
theorem dX5_risesFirst_59 : decode cX5_risesFirst 59 = .ok (.getfield 19, 3) := by decide +kernel
theorem dX5_risesFirst_62 : decode cX5_risesFirst 62 = .ok (.invokevirtual 161, 3) := by decide +kernel
theorem dX5_risesFirst_65 : decode cX5_risesFirst 65 = .ok (.aload_n 0, 1) := by decide +kernel
theorem dX5_risesFirst_66 : decode cX5_risesFirst 66 = .ok (.getfield 33, 3) := by decide +kernel
theorem dX5_risesFirst_69 : decode cX5_risesFirst 69 = .ok (.invokevirtual 269, 3) := by decide +kernel
theorem dX5_risesFirst_72 : decode cX5_risesFirst 72 = .ok (.istore 5, 2) := by decide +kernel
theorem dX5_risesFirst_74 : decode cX5_risesFirst 74 = .ok (.iload 5, 2) := by decide +kernel
theorem dX5_risesFirst_76 : decode cX5_risesFirst 76 = .ok (.bipush (-9), 2) := by decide +kernel
theorem dX5_risesFirst_78 : decode cX5_risesFirst 78 = .ok (.if_icmp .eq 15, 3) := by decide +kernel
theorem dX5_risesFirst_81 : decode cX5_risesFirst 81 = .ok (.iload 5, 2) := by decide +kernel
theorem dX5_risesFirst_83 : decode cX5_risesFirst 83 = .ok (.iload_n 1, 1) := by decide +kernel
theorem dX5_risesFirst_84 : decode cX5_risesFirst 84 = .ok (.if_icmp .ne 7, 3) := by decide +kernel
theorem dX5_risesFirst_87 : decode cX5_risesFirst 87 = .ok (.iconst 1, 1) := by decide +kernel
theorem dX5_risesFirst_88 : decode cX5_risesFirst 88 = .ok (.goto 4, 3) := by decide +kernel
theorem dX5_risesFirst_91 : decode cX5_risesFirst 91 = .ok (.iconst 0, 1) := by decide +kernel
theorem dX5_risesFirst_92 : decode cX5_risesFirst 92 = .ok (.ireturn, 1) := by decide +kernel
theorem dX5_risesFirst_93 : decode cX5_risesFirst 93 = .ok (.iinc 4 1, 3) := by decide +kernel
theorem dX5_risesFirst_96 : decode cX5_risesFirst 96 = .ok (.goto (-48), 3) := by decide +kernel
theorem dX5_risesFirst_99 : decode cX5_risesFirst 99 = .ok (.iconst 0, 1) := by decide +kernel
theorem dX5_risesFirst_100 : decode cX5_risesFirst 100 = .ok (.ireturn, 1) := by decide +kernel
theorem dX5_raised_0 : decode cX5_raised 0 = .ok (.iconst 1, 1) := by decide +kernel
theorem dX5_raised_1 : decode cX5_raised 1 = .ok (.istore_n 2, 1) := by decide +kernel
theorem dX5_raised_2 : decode cX5_raised 2 = .ok (.iconst 0, 1) := by decide +kernel
theorem dX5_raised_3 : decode cX5_raised 3 = .ok (.istore_n 3, 1) := by decide +kernel
theorem dX5_raised_4 : decode cX5_raised 4 = .ok (.iload_n 3, 1) := by decide +kernel
theorem dX5_raised_5 : decode cX5_raised 5 = .ok (.iload_n 1, 1) := by decide +kernel
theorem dX5_raised_6 : decode cX5_raised 6 = .ok (.if_icmp .ge 13, 3) := by decide +kernel
theorem dX5_raised_9 : decode cX5_raised 9 = .ok (.iload_n 2, 1) := by decide +kernel
theorem dX5_raised_10 : decode cX5_raised 10 = .ok (.iload_n 0, 1) := by decide +kernel
theorem dX5_raised_11 : decode cX5_raised 11 = .ok (.imul, 1) := by decide +kernel
theorem dX5_raised_12 : decode cX5_raised 12 = .ok (.istore_n 2, 1) := by decide +kernel
theorem dX5_raised_13 : decode cX5_raised 13 = .ok (.iinc 3 1, 3) := by decide +kernel
theorem dX5_raised_16 : decode cX5_raised 16 = .ok (.goto (-12), 3) := by decide +kernel
theorem dX5_raised_19 : decode cX5_raised 19 = .ok (.iload_n 2, 1) := by decide +kernel
theorem dX5_raised_20 : decode cX5_raised 20 = .ok (.ireturn, 1) := by decide +kernel
theorem dX5_greatestCommon_0 : decode cX5_greatestCommon 0 = .ok (.iload_n 0, 1) := by decide +kernel
theorem dX5_greatestCommon_1 : decode cX5_greatestCommon 1 = .ok (.istore_n 2, 1) := by decide +kernel
theorem dX5_greatestCommon_2 : decode cX5_greatestCommon 2 = .ok (.iload_n 1, 1) := by decide +kernel
theorem dX5_greatestCommon_3 : decode cX5_greatestCommon 3 = .ok (.istore_n 3, 1) := by decide +kernel
theorem dX5_greatestCommon_4 : decode cX5_greatestCommon 4 = .ok (.iconst 0, 1) := by decide +kernel
theorem dX5_greatestCommon_5 : decode cX5_greatestCommon 5 = .ok (.istore 4, 2) := by decide +kernel
theorem dX5_greatestCommon_7 : decode cX5_greatestCommon 7 = .ok (.iload 4, 2) := by decide +kernel
theorem dX5_greatestCommon_9 : decode cX5_greatestCommon 9 = .ok (.bipush 64, 2) := by decide +kernel
theorem dX5_greatestCommon_11 : decode cX5_greatestCommon 11 = .ok (.if_icmp .ge 23, 3) := by decide +kernel
theorem dX5_greatestCommon_14 : decode cX5_greatestCommon 14 = .ok (.iload_n 3, 1) := by decide +kernel
theorem dX5_greatestCommon_15 : decode cX5_greatestCommon 15 = .ok (.ifCond .eq 19, 3) := by decide +kernel
theorem dX5_greatestCommon_18 : decode cX5_greatestCommon 18 = .ok (.iload_n 2, 1) := by decide +kernel
theorem dX5_greatestCommon_19 : decode cX5_greatestCommon 19 = .ok (.iload_n 3, 1) := by decide +kernel
theorem dX5_greatestCommon_20 : decode cX5_greatestCommon 20 = .ok (.irem, 1) := by decide +kernel
theorem dX5_greatestCommon_21 : decode cX5_greatestCommon 21 = .ok (.istore 5, 2) := by decide +kernel
theorem dX5_greatestCommon_23 : decode cX5_greatestCommon 23 = .ok (.iload_n 3, 1) := by decide +kernel
theorem dX5_greatestCommon_24 : decode cX5_greatestCommon 24 = .ok (.istore_n 2, 1) := by decide +kernel
theorem dX5_greatestCommon_25 : decode cX5_greatestCommon 25 = .ok (.iload 5, 2) := by decide +kernel
theorem dX5_greatestCommon_27 : decode cX5_greatestCommon 27 = .ok (.istore_n 3, 1) := by decide +kernel
theorem dX5_greatestCommon_28 : decode cX5_greatestCommon 28 = .ok (.iinc 4 1, 3) := by decide +kernel
theorem dX5_greatestCommon_31 : decode cX5_greatestCommon 31 = .ok (.goto (-24), 3) := by decide +kernel
theorem dX5_greatestCommon_34 : decode cX5_greatestCommon 34 = .ok (.iload_n 2, 1) := by decide +kernel
theorem dX5_greatestCommon_35 : decode cX5_greatestCommon 35 = .ok (.ireturn, 1) := by decide +kernel
theorem dX5_fittingWeights_0 : decode cX5_fittingWeights 0 = .ok (.lconst 0, 1) := by decide +kernel
theorem dX5_fittingWeights_1 : decode cX5_fittingWeights 1 = .ok (.lstore_n 2, 1) := by decide +kernel
theorem dX5_fittingWeights_2 : decode cX5_fittingWeights 2 = .ok (.iconst 0, 1) := by decide +kernel
theorem dX5_fittingWeights_3 : decode cX5_fittingWeights 3 = .ok (.istore 4, 2) := by decide +kernel
theorem dX5_fittingWeights_5 : decode cX5_fittingWeights 5 = .ok (.iload 4, 2) := by decide +kernel
theorem dX5_fittingWeights_7 : decode cX5_fittingWeights 7 = .ok (.bipush 40, 2) := by decide +kernel
theorem dX5_fittingWeights_9 : decode cX5_fittingWeights 9 = .ok (.if_icmp .gt 26, 3) := by decide +kernel
theorem dX5_fittingWeights_12 : decode cX5_fittingWeights 12 = .ok (.aload_n 0, 1) := by decide +kernel
theorem dX5_fittingWeights_13 : decode cX5_fittingWeights 13 = .ok (.iload_n 1, 1) := by decide +kernel
theorem dX5_fittingWeights_14 : decode cX5_fittingWeights 14 = .ok (.iload 4, 2) := by decide +kernel
theorem dX5_fittingWeights_16 : decode cX5_fittingWeights 16 = .ok (.invokevirtual 272, 3) := by decide +kernel
theorem dX5_fittingWeights_19 : decode cX5_fittingWeights 19 = .ok (.ifCond .eq 10, 3) := by decide +kernel
theorem dX5_fittingWeights_22 : decode cX5_fittingWeights 22 = .ok (.lload_n 2, 1) := by decide +kernel
theorem dX5_fittingWeights_23 : decode cX5_fittingWeights 23 = .ok (.lconst 1, 1) := by decide +kernel
theorem dX5_fittingWeights_24 : decode cX5_fittingWeights 24 = .ok (.iload 4, 2) := by decide +kernel
theorem dX5_fittingWeights_26 : decode cX5_fittingWeights 26 = .ok (.lshl, 1) := by decide +kernel
theorem dX5_fittingWeights_27 : decode cX5_fittingWeights 27 = .ok (.lor, 1) := by decide +kernel
theorem dX5_fittingWeights_28 : decode cX5_fittingWeights 28 = .ok (.lstore_n 2, 1) := by decide +kernel
theorem dX5_fittingWeights_29 : decode cX5_fittingWeights 29 = .ok (.iinc 4 1, 3) := by decide +kernel
theorem dX5_fittingWeights_32 : decode cX5_fittingWeights 32 = .ok (.goto (-27), 3) := by decide +kernel
theorem dX5_fittingWeights_35 : decode cX5_fittingWeights 35 = .ok (.lload_n 2, 1) := by decide +kernel
theorem dX5_fittingWeights_36 : decode cX5_fittingWeights 36 = .ok (.lreturn, 1) := by decide +kernel
theorem dX5_fitsWhatIsSeen_0 : decode cX5_fitsWhatIsSeen 0 = .ok (.iconst 0, 1) := by decide +kernel
theorem dX5_fitsWhatIsSeen_1 : decode cX5_fitsWhatIsSeen 1 = .ok (.istore_n 3, 1) := by decide +kernel
theorem dX5_fitsWhatIsSeen_2 : decode cX5_fitsWhatIsSeen 2 = .ok (.iload_n 3, 1) := by decide +kernel
theorem dX5_fitsWhatIsSeen_3 : decode cX5_fitsWhatIsSeen 3 = .ok (.bipush 6, 2) := by decide +kernel
theorem dX5_fitsWhatIsSeen_5 : decode cX5_fitsWhatIsSeen 5 = .ok (.if_icmp .ge 62, 3) := by decide +kernel
theorem dX5_fitsWhatIsSeen_8 : decode cX5_fitsWhatIsSeen 8 = .ok (.iload_n 3, 1) := by decide +kernel
theorem dX5_fitsWhatIsSeen_9 : decode cX5_fitsWhatIsSeen 9 = .ok (.aload_n 0, 1) := by decide +kernel
theorem dX5_fitsWhatIsSeen_10 : decode cX5_fitsWhatIsSeen 10 = .ok (.getfield 52, 3) := by decide +kernel
theorem dX5_fitsWhatIsSeen_13 : decode cX5_fitsWhatIsSeen 13 = .ok (.getfield 91, 3) := by decide +kernel
theorem dX5_fitsWhatIsSeen_16 : decode cX5_fitsWhatIsSeen 16 = .ok (.if_icmp .ge 51, 3) := by decide +kernel
theorem dX5_fitsWhatIsSeen_19 : decode cX5_fitsWhatIsSeen 19 = .ok (.aload_n 0, 1) := by decide +kernel
theorem dX5_fitsWhatIsSeen_20 : decode cX5_fitsWhatIsSeen 20 = .ok (.getfield 52, 3) := by decide +kernel
theorem dX5_fitsWhatIsSeen_23 : decode cX5_fitsWhatIsSeen 23 = .ok (.getfield 275, 3) := by decide +kernel
theorem dX5_fitsWhatIsSeen_26 : decode cX5_fitsWhatIsSeen 26 = .ok (.iload_n 3, 1) := by decide +kernel
theorem dX5_fitsWhatIsSeen_27 : decode cX5_fitsWhatIsSeen 27 = .ok (.iaload, 1) := by decide +kernel
theorem dX5_fitsWhatIsSeen_28 : decode cX5_fitsWhatIsSeen 28 = .ok (.iload_n 1, 1) := by decide +kernel
theorem dX5_fitsWhatIsSeen_29 : decode cX5_fitsWhatIsSeen 29 = .ok (.if_icmp .ne 32, 3) := by decide +kernel
theorem dX5_fitsWhatIsSeen_32 : decode cX5_fitsWhatIsSeen 32 = .ok (.aload_n 0, 1) := by decide +kernel
theorem dX5_fitsWhatIsSeen_33 : decode cX5_fitsWhatIsSeen 33 = .ok (.iload_n 1, 1) := by decide +kernel
theorem dX5_fitsWhatIsSeen_34 : decode cX5_fitsWhatIsSeen 34 = .ok (.iload_n 2, 1) := by decide +kernel
theorem dX5_fitsWhatIsSeen_35 : decode cX5_fitsWhatIsSeen 35 = .ok (.aload_n 0, 1) := by decide +kernel
theorem dX5_fitsWhatIsSeen_36 : decode cX5_fitsWhatIsSeen 36 = .ok (.getfield 52, 3) := by decide +kernel
theorem dX5_fitsWhatIsSeen_39 : decode cX5_fitsWhatIsSeen 39 = .ok (.getfield 278, 3) := by decide +kernel
theorem dX5_fitsWhatIsSeen_42 : decode cX5_fitsWhatIsSeen 42 = .ok (.iload_n 3, 1) := by decide +kernel
theorem dX5_fitsWhatIsSeen_43 : decode cX5_fitsWhatIsSeen 43 = .ok (.iaload, 1) := by decide +kernel
theorem dX5_fitsWhatIsSeen_44 : decode cX5_fitsWhatIsSeen 44 = .ok (.invokevirtual 281, 3) := by decide +kernel
theorem dX5_fitsWhatIsSeen_47 : decode cX5_fitsWhatIsSeen 47 = .ok (.aload_n 0, 1) := by decide +kernel
theorem dX5_fitsWhatIsSeen_48 : decode cX5_fitsWhatIsSeen 48 = .ok (.getfield 52, 3) := by decide +kernel
theorem dX5_fitsWhatIsSeen_51 : decode cX5_fitsWhatIsSeen 51 = .ok (.getfield 284, 3) := by decide +kernel
theorem dX5_fitsWhatIsSeen_54 : decode cX5_fitsWhatIsSeen 54 = .ok (.iload_n 3, 1) := by decide +kernel
theorem dX5_fitsWhatIsSeen_55 : decode cX5_fitsWhatIsSeen 55 = .ok (.iaload, 1) := by decide +kernel
theorem dX5_fitsWhatIsSeen_56 : decode cX5_fitsWhatIsSeen 56 = .ok (.if_icmp .eq 5, 3) := by decide +kernel
theorem dX5_fitsWhatIsSeen_59 : decode cX5_fitsWhatIsSeen 59 = .ok (.iconst 0, 1) := by decide +kernel
theorem dX5_fitsWhatIsSeen_60 : decode cX5_fitsWhatIsSeen 60 = .ok (.ireturn, 1) := by decide +kernel
theorem dX5_fitsWhatIsSeen_61 : decode cX5_fitsWhatIsSeen 61 = .ok (.iinc 3 1, 3) := by decide +kernel
theorem dX5_fitsWhatIsSeen_64 : decode cX5_fitsWhatIsSeen 64 = .ok (.goto (-62), 3) := by decide +kernel
theorem dX5_fitsWhatIsSeen_67 : decode cX5_fitsWhatIsSeen 67 = .ok (.iconst 1, 1) := by decide +kernel
theorem dX5_fitsWhatIsSeen_68 : decode cX5_fitsWhatIsSeen 68 = .ok (.ireturn, 1) := by decide +kernel
theorem dX5_depthAlone_0 : decode cX5_depthAlone 0 = .ok (.bipush 10, 2) := by decide +kernel
theorem dX5_depthAlone_2 : decode cX5_depthAlone 2 = .ok (.istore 4, 2) := by decide +kernel
theorem dX5_depthAlone_4 : decode cX5_depthAlone 4 = .ok (.aload_n 0, 1) := by decide +kernel
theorem dX5_depthAlone_5 : decode cX5_depthAlone 5 = .ok (.getfield 29, 3) := by decide +kernel
theorem dX5_depthAlone_8 : decode cX5_depthAlone 8 = .ok (.getfield 98, 3) := by decide +kernel
theorem dX5_depthAlone_11 : decode cX5_depthAlone 11 = .ok (.iload_n 1, 1) := by decide +kernel
theorem dX5_depthAlone_12 : decode cX5_depthAlone 12 = .ok (.iaload, 1) := by decide +kernel
theorem dX5_depthAlone_13 : decode cX5_depthAlone 13 = .ok (.istore 5, 2) := by decide +kernel
theorem dX5_depthAlone_15 : decode cX5_depthAlone 15 = .ok (.iconst 0, 1) := by decide +kernel
theorem dX5_depthAlone_16 : decode cX5_depthAlone 16 = .ok (.istore 6, 2) := by decide +kernel
theorem dX5_depthAlone_18 : decode cX5_depthAlone 18 = .ok (.iload 6, 2) := by decide +kernel
theorem dX5_depthAlone_20 : decode cX5_depthAlone 20 = .ok (.iload_n 3, 1) := by decide +kernel
theorem dX5_depthAlone_21 : decode cX5_depthAlone 21 = .ok (.if_icmp .ge 47, 3) := by decide +kernel
theorem dX5_depthAlone_24 : decode cX5_depthAlone 24 = .ok (.bipush 30, 2) := by decide +kernel
theorem dX5_depthAlone_26 : decode cX5_depthAlone 26 = .ok (.iload 5, 2) := by decide +kernel
theorem dX5_depthAlone_28 : decode cX5_depthAlone 28 = .ok (.aload_n 0, 1) := by decide +kernel
theorem dX5_depthAlone_29 : decode cX5_depthAlone 29 = .ok (.getfield 19, 3) := by decide +kernel
theorem dX5_depthAlone_32 : decode cX5_depthAlone 32 = .ok (.getfield 101, 3) := by decide +kernel
theorem dX5_depthAlone_35 : decode cX5_depthAlone 35 = .ok (.iload_n 1, 1) := by decide +kernel
theorem dX5_depthAlone_36 : decode cX5_depthAlone 36 = .ok (.iaload, 1) := by decide +kernel
theorem dX5_depthAlone_37 : decode cX5_depthAlone 37 = .ok (.iadd, 1) := by decide +kernel
theorem dX5_depthAlone_38 : decode cX5_depthAlone 38 = .ok (.invokestatic 264, 3) := by decide +kernel
theorem dX5_depthAlone_41 : decode cX5_depthAlone 41 = .ok (.istore 5, 2) := by decide +kernel
theorem dX5_depthAlone_43 : decode cX5_depthAlone 43 = .ok (.iload 4, 2) := by decide +kernel
theorem dX5_depthAlone_45 : decode cX5_depthAlone 45 = .ok (.iload 5, 2) := by decide +kernel
theorem dX5_depthAlone_47 : decode cX5_depthAlone 47 = .ok (.aload_n 0, 1) := by decide +kernel
theorem dX5_depthAlone_48 : decode cX5_depthAlone 48 = .ok (.getfield 29, 3) := by decide +kernel
theorem dX5_depthAlone_51 : decode cX5_depthAlone 51 = .ok (.getfield 119, 3) := by decide +kernel
theorem dX5_depthAlone_54 : decode cX5_depthAlone 54 = .ok (.iadd, 1) := by decide +kernel
theorem dX5_depthAlone_55 : decode cX5_depthAlone 55 = .ok (.iload_n 2, 1) := by decide +kernel
theorem dX5_depthAlone_56 : decode cX5_depthAlone 56 = .ok (.isub, 1) := by decide +kernel
theorem dX5_depthAlone_57 : decode cX5_depthAlone 57 = .ok (.invokestatic 285, 3) := by decide +kernel
theorem dX5_depthAlone_60 : decode cX5_depthAlone 60 = .ok (.istore 4, 2) := by decide +kernel
theorem dX5_depthAlone_62 : decode cX5_depthAlone 62 = .ok (.iinc 6 1, 3) := by decide +kernel
theorem dX5_depthAlone_65 : decode cX5_depthAlone 65 = .ok (.goto (-47), 3) := by decide +kernel
theorem dX5_depthAlone_68 : decode cX5_depthAlone 68 = .ok (.iload 4, 2) := by decide +kernel
theorem dX5_depthAlone_70 : decode cX5_depthAlone 70 = .ok (.ireturn, 1) := by decide +kernel
theorem dX5_moved_0 : decode cX5_moved 0 = .ok (.iload_n 1, 1) := by decide +kernel
theorem dX5_moved_1 : decode cX5_moved 1 = .ok (.ifCond .le 11, 3) := by decide +kernel
theorem dX5_moved_4 : decode cX5_moved 4 = .ok (.iconst 0, 1) := by decide +kernel
theorem dX5_moved_5 : decode cX5_moved 5 = .ok (.iload_n 0, 1) := by decide +kernel
theorem dX5_moved_6 : decode cX5_moved 6 = .ok (.iconst 1, 1) := by decide +kernel
theorem dX5_moved_7 : decode cX5_moved 7 = .ok (.isub, 1) := by decide +kernel
theorem dX5_moved_8 : decode cX5_moved 8 = .ok (.invokestatic 288, 3) := by decide +kernel
theorem dX5_moved_11 : decode cX5_moved 11 = .ok (.ireturn, 1) := by decide +kernel
theorem dX5_moved_12 : decode cX5_moved 12 = .ok (.iload_n 1, 1) := by decide +kernel
theorem dX5_moved_13 : decode cX5_moved 13 = .ok (.ifCond .ge 14, 3) := by decide +kernel
theorem dX5_moved_16 : decode cX5_moved 16 = .ok (.bipush 10, 2) := by decide +kernel
theorem dX5_moved_18 : decode cX5_moved 18 = .ok (.iload_n 0, 1) := by decide +kernel
theorem dX5_moved_19 : decode cX5_moved 19 = .ok (.iconst 1, 1) := by decide +kernel
theorem dX5_moved_20 : decode cX5_moved 20 = .ok (.iadd, 1) := by decide +kernel
theorem dX5_moved_21 : decode cX5_moved 21 = .ok (.invokestatic 264, 3) := by decide +kernel
theorem dX5_moved_24 : decode cX5_moved 24 = .ok (.goto 4, 3) := by decide +kernel
theorem dX5_moved_27 : decode cX5_moved 27 = .ok (.iload_n 0, 1) := by decide +kernel
theorem dX5_moved_28 : decode cX5_moved 28 = .ok (.ireturn, 1) := by decide +kernel
theorem dX5_least_0 : decode cX5_least 0 = .ok (.iconst 0, 1) := by decide +kernel
theorem dX5_least_1 : decode cX5_least 1 = .ok (.istore_n 2, 1) := by decide +kernel
theorem dX5_least_2 : decode cX5_least 2 = .ok (.iload_n 2, 1) := by decide +kernel
theorem dX5_least_3 : decode cX5_least 3 = .ok (.bipush 40, 2) := by decide +kernel
theorem dX5_least_5 : decode cX5_least 5 = .ok (.if_icmp .gt 21, 3) := by decide +kernel
theorem dX5_least_8 : decode cX5_least 8 = .ok (.lload_n 0, 1) := by decide +kernel
theorem dX5_least_9 : decode cX5_least 9 = .ok (.iload_n 2, 1) := by decide +kernel
theorem dX5_least_10 : decode cX5_least 10 = .ok (.lshr, 1) := by decide +kernel
theorem dX5_least_11 : decode cX5_least 11 = .ok (.lconst 1, 1) := by decide +kernel
theorem dX5_least_12 : decode cX5_least 12 = .ok (.land, 1) := by decide +kernel
theorem dX5_least_13 : decode cX5_least 13 = .ok (.lconst 0, 1) := by decide +kernel
theorem dX5_least_14 : decode cX5_least 14 = .ok (.lcmp, 1) := by decide +kernel
theorem dX5_least_15 : decode cX5_least 15 = .ok (.ifCond .eq 5, 3) := by decide +kernel
theorem dX5_least_18 : decode cX5_least 18 = .ok (.iload_n 2, 1) := by decide +kernel
theorem dX5_least_19 : decode cX5_least 19 = .ok (.ireturn, 1) := by decide +kernel
theorem dX5_least_20 : decode cX5_least 20 = .ok (.iinc 2 1, 3) := by decide +kernel
theorem dX5_least_23 : decode cX5_least 23 = .ok (.goto (-21), 3) := by decide +kernel
theorem dX5_least_26 : decode cX5_least 26 = .ok (.bipush (-9), 2) := by decide +kernel
theorem dX5_least_28 : decode cX5_least 28 = .ok (.ireturn, 1) := by decide +kernel
theorem dX5_greatest_0 : decode cX5_greatest 0 = .ok (.bipush 40, 2) := by decide +kernel
theorem dX5_greatest_2 : decode cX5_greatest 2 = .ok (.istore_n 2, 1) := by decide +kernel
theorem dX5_greatest_3 : decode cX5_greatest 3 = .ok (.iload_n 2, 1) := by decide +kernel
theorem dX5_greatest_4 : decode cX5_greatest 4 = .ok (.ifCond .lt 21, 3) := by decide +kernel
theorem dX5_greatest_7 : decode cX5_greatest 7 = .ok (.lload_n 0, 1) := by decide +kernel
theorem dX5_greatest_8 : decode cX5_greatest 8 = .ok (.iload_n 2, 1) := by decide +kernel
theorem dX5_greatest_9 : decode cX5_greatest 9 = .ok (.lshr, 1) := by decide +kernel
theorem dX5_greatest_10 : decode cX5_greatest 10 = .ok (.lconst 1, 1) := by decide +kernel
theorem dX5_greatest_11 : decode cX5_greatest 11 = .ok (.land, 1) := by decide +kernel
theorem dX5_greatest_12 : decode cX5_greatest 12 = .ok (.lconst 0, 1) := by decide +kernel
theorem dX5_greatest_13 : decode cX5_greatest 13 = .ok (.lcmp, 1) := by decide +kernel
theorem dX5_greatest_14 : decode cX5_greatest 14 = .ok (.ifCond .eq 5, 3) := by decide +kernel
theorem dX5_greatest_17 : decode cX5_greatest 17 = .ok (.iload_n 2, 1) := by decide +kernel
theorem dX5_greatest_18 : decode cX5_greatest 18 = .ok (.ireturn, 1) := by decide +kernel
theorem dX5_greatest_19 : decode cX5_greatest 19 = .ok (.iinc 2 (-1), 3) := by decide +kernel
theorem dX5_greatest_22 : decode cX5_greatest 22 = .ok (.goto (-19), 3) := by decide +kernel
theorem dX5_greatest_25 : decode cX5_greatest 25 = .ok (.bipush (-9), 2) := by decide +kernel
theorem dX5_greatest_27 : decode cX5_greatest 27 = .ok (.ireturn, 1) := by decide +kernel
theorem dX5_mostAlike_0 : decode cX5_mostAlike 0 = .ok (.iconst 0, 1) := by decide +kernel
theorem dX5_mostAlike_1 : decode cX5_mostAlike 1 = .ok (.istore 5, 2) := by decide +kernel
theorem dX5_mostAlike_3 : decode cX5_mostAlike 3 = .ok (.iload 5, 2) := by decide +kernel
theorem dX5_mostAlike_5 : decode cX5_mostAlike 5 = .ok (.bipush 10, 2) := by decide +kernel
theorem dX5_mostAlike_7 : decode cX5_mostAlike 7 = .ok (.if_icmp .gt 17, 3) := by decide +kernel
theorem dX5_mostAlike_10 : decode cX5_mostAlike 10 = .ok (.aload_n 0, 1) := by decide +kernel
theorem dX5_mostAlike_11 : decode cX5_mostAlike 11 = .ok (.getfield 60, 3) := by decide +kernel
theorem dX5_mostAlike_14 : decode cX5_mostAlike 14 = .ok (.iload 5, 2) := by decide +kernel
theorem dX5_mostAlike_16 : decode cX5_mostAlike 16 = .ok (.iconst 0, 1) := by decide +kernel
theorem dX5_mostAlike_17 : decode cX5_mostAlike 17 = .ok (.iastore, 1) := by decide +kernel
theorem dX5_mostAlike_18 : decode cX5_mostAlike 18 = .ok (.iinc 5 1, 3) := by decide +kernel
theorem dX5_mostAlike_21 : decode cX5_mostAlike 21 = .ok (.goto (-18), 3) := by decide +kernel
theorem dX5_mostAlike_24 : decode cX5_mostAlike 24 = .ok (.iconst 0, 1) := by decide +kernel
theorem dX5_mostAlike_25 : decode cX5_mostAlike 25 = .ok (.istore 5, 2) := by decide +kernel
theorem dX5_mostAlike_27 : decode cX5_mostAlike 27 = .ok (.iconst 0, 1) := by decide +kernel
theorem dX5_mostAlike_28 : decode cX5_mostAlike 28 = .ok (.istore 6, 2) := by decide +kernel
theorem dX5_mostAlike_30 : decode cX5_mostAlike 30 = .ok (.iload 6, 2) := by decide +kernel
theorem dX5_mostAlike_32 : decode cX5_mostAlike 32 = .ok (.bipush 40, 2) := by decide +kernel
theorem dX5_mostAlike_34 : decode cX5_mostAlike 34 = .ok (.if_icmp .gt 39, 3) := by decide +kernel
theorem dX5_mostAlike_37 : decode cX5_mostAlike 37 = .ok (.lload_n 3, 1) := by decide +kernel
theorem dX5_mostAlike_38 : decode cX5_mostAlike 38 = .ok (.iload 6, 2) := by decide +kernel
theorem dX5_mostAlike_40 : decode cX5_mostAlike 40 = .ok (.lshr, 1) := by decide +kernel
theorem dX5_mostAlike_41 : decode cX5_mostAlike 41 = .ok (.lconst 1, 1) := by decide +kernel
theorem dX5_mostAlike_42 : decode cX5_mostAlike 42 = .ok (.land, 1) := by decide +kernel
theorem dX5_mostAlike_43 : decode cX5_mostAlike 43 = .ok (.lconst 0, 1) := by decide +kernel
theorem dX5_mostAlike_44 : decode cX5_mostAlike 44 = .ok (.lcmp, 1) := by decide +kernel
theorem dX5_mostAlike_45 : decode cX5_mostAlike 45 = .ok (.ifCond .eq 22, 3) := by decide +kernel
theorem dX5_mostAlike_48 : decode cX5_mostAlike 48 = .ok (.iload 5, 2) := by decide +kernel
theorem dX5_mostAlike_50 : decode cX5_mostAlike 50 = .ok (.aload_n 0, 1) := by decide +kernel
theorem dX5_mostAlike_51 : decode cX5_mostAlike 51 = .ok (.aload_n 0, 1) := by decide +kernel
theorem dX5_mostAlike_52 : decode cX5_mostAlike 52 = .ok (.iload_n 1, 1) := by decide +kernel
theorem dX5_mostAlike_53 : decode cX5_mostAlike 53 = .ok (.iload 6, 2) := by decide +kernel
theorem dX5_mostAlike_55 : decode cX5_mostAlike 55 = .ok (.iload_n 2, 1) := by decide +kernel
theorem dX5_mostAlike_56 : decode cX5_mostAlike 56 = .ok (.invokevirtual 281, 3) := by decide +kernel
theorem dX5_mostAlike_59 : decode cX5_mostAlike 59 = .ok (.invokevirtual 291, 3) := by decide +kernel
theorem dX5_mostAlike_62 : decode cX5_mostAlike 62 = .ok (.invokestatic 288, 3) := by decide +kernel
theorem dX5_mostAlike_65 : decode cX5_mostAlike 65 = .ok (.istore 5, 2) := by decide +kernel
theorem dX5_mostAlike_67 : decode cX5_mostAlike 67 = .ok (.iinc 6 1, 3) := by decide +kernel
theorem dX5_mostAlike_70 : decode cX5_mostAlike 70 = .ok (.goto (-40), 3) := by decide +kernel
theorem dX5_mostAlike_73 : decode cX5_mostAlike 73 = .ok (.iload 5, 2) := by decide +kernel
theorem dX5_mostAlike_75 : decode cX5_mostAlike 75 = .ok (.ireturn, 1) := by decide +kernel
theorem dX5_oneMoreAt_0 : decode cX5_oneMoreAt 0 = .ok (.iload_n 1, 1) := by decide +kernel
theorem dX5_oneMoreAt_1 : decode cX5_oneMoreAt 1 = .ok (.ifCond .lt 9, 3) := by decide +kernel
theorem dX5_oneMoreAt_4 : decode cX5_oneMoreAt 4 = .ok (.iload_n 1, 1) := by decide +kernel
theorem dX5_oneMoreAt_5 : decode cX5_oneMoreAt 5 = .ok (.bipush 10, 2) := by decide +kernel
theorem dX5_oneMoreAt_7 : decode cX5_oneMoreAt 7 = .ok (.if_icmp .le 5, 3) := by decide +kernel
theorem dX5_oneMoreAt_10 : decode cX5_oneMoreAt 10 = .ok (.iconst 0, 1) := by decide +kernel
theorem dX5_oneMoreAt_11 : decode cX5_oneMoreAt 11 = .ok (.ireturn, 1) := by decide +kernel
theorem dX5_oneMoreAt_12 : decode cX5_oneMoreAt 12 = .ok (.aload_n 0, 1) := by decide +kernel
theorem dX5_oneMoreAt_13 : decode cX5_oneMoreAt 13 = .ok (.getfield 60, 3) := by decide +kernel
theorem dX5_oneMoreAt_16 : decode cX5_oneMoreAt 16 = .ok (.iload_n 1, 1) := by decide +kernel
theorem dX5_oneMoreAt_17 : decode cX5_oneMoreAt 17 = .ok (.dup2, 1) := by decide +kernel
theorem dX5_oneMoreAt_18 : decode cX5_oneMoreAt 18 = .ok (.iaload, 1) := by decide +kernel
theorem dX5_oneMoreAt_19 : decode cX5_oneMoreAt 19 = .ok (.iconst 1, 1) := by decide +kernel
theorem dX5_oneMoreAt_20 : decode cX5_oneMoreAt 20 = .ok (.iadd, 1) := by decide +kernel
theorem dX5_oneMoreAt_21 : decode cX5_oneMoreAt 21 = .ok (.iastore, 1) := by decide +kernel
theorem dX5_oneMoreAt_22 : decode cX5_oneMoreAt 22 = .ok (.aload_n 0, 1) := by decide +kernel
theorem dX5_oneMoreAt_23 : decode cX5_oneMoreAt 23 = .ok (.getfield 60, 3) := by decide +kernel
theorem dX5_oneMoreAt_26 : decode cX5_oneMoreAt 26 = .ok (.iload_n 1, 1) := by decide +kernel
theorem dX5_oneMoreAt_27 : decode cX5_oneMoreAt 27 = .ok (.iaload, 1) := by decide +kernel
theorem dX5_oneMoreAt_28 : decode cX5_oneMoreAt 28 = .ok (.ireturn, 1) := by decide +kernel
theorem dX5_dough_0 : decode cX5_dough 0 = .ok (.aload_n 0, 1) := by decide +kernel
theorem dX5_dough_1 : decode cX5_dough 1 = .ok (.dup, 1) := by decide +kernel
theorem dX5_dough_2 : decode cX5_dough 2 = .ok (.getfield 254, 3) := by decide +kernel
theorem dX5_dough_5 : decode cX5_dough 5 = .ok (.lconst 1, 1) := by decide +kernel
theorem dX5_dough_6 : decode cX5_dough 6 = .ok (.ladd, 1) := by decide +kernel
theorem dX5_dough_7 : decode cX5_dough 7 = .ok (.putfield 254, 3) := by decide +kernel
theorem dX5_dough_10 : decode cX5_dough 10 = .ok (.aload_n 0, 1) := by decide +kernel
theorem dX5_dough_11 : decode cX5_dough 11 = .ok (.getfield 29, 3) := by decide +kernel
theorem dX5_dough_14 : decode cX5_dough 14 = .ok (.getfield 98, 3) := by decide +kernel
theorem dX5_dough_17 : decode cX5_dough 17 = .ok (.iload_n 1, 1) := by decide +kernel
theorem dX5_dough_18 : decode cX5_dough 18 = .ok (.iaload, 1) := by decide +kernel
theorem dX5_dough_19 : decode cX5_dough 19 = .ok (.ireturn, 1) := by decide +kernel
theorem dX5_suet_0 : decode cX5_suet 0 = .ok (.aload_n 0, 1) := by decide +kernel
theorem dX5_suet_1 : decode cX5_suet 1 = .ok (.dup, 1) := by decide +kernel
theorem dX5_suet_2 : decode cX5_suet 2 = .ok (.getfield 254, 3) := by decide +kernel
theorem dX5_suet_5 : decode cX5_suet 5 = .ok (.ldc2_w 294, 3) := by decide +kernel
theorem dX5_suet_8 : decode cX5_suet 8 = .ok (.ladd, 1) := by decide +kernel
theorem dX5_suet_9 : decode cX5_suet 9 = .ok (.putfield 254, 3) := by decide +kernel
theorem dX5_suet_12 : decode cX5_suet 12 = .ok (.aload_n 0, 1) := by decide +kernel
theorem dX5_suet_13 : decode cX5_suet 13 = .ok (.iload_n 1, 1) := by decide +kernel
theorem dX5_suet_14 : decode cX5_suet 14 = .ok (.invokevirtual 222, 3) := by decide +kernel
theorem dX5_suet_17 : decode cX5_suet 17 = .ok (.aload_n 0, 1) := by decide +kernel
theorem dX5_suet_18 : decode cX5_suet 18 = .ok (.getfield 19, 3) := by decide +kernel
theorem dX5_suet_21 : decode cX5_suet 21 = .ok (.getfield 95, 3) := by decide +kernel
theorem dX5_suet_24 : decode cX5_suet 24 = .ok (.iload_n 1, 1) := by decide +kernel
theorem dX5_suet_25 : decode cX5_suet 25 = .ok (.iaload, 1) := by decide +kernel
theorem dX5_suet_26 : decode cX5_suet 26 = .ok (.iadd, 1) := by decide +kernel
theorem dX5_suet_27 : decode cX5_suet 27 = .ok (.ireturn, 1) := by decide +kernel
theorem dX5_parsley_0 : decode cX5_parsley 0 = .ok (.aload_n 0, 1) := by decide +kernel
theorem dX5_parsley_1 : decode cX5_parsley 1 = .ok (.dup, 1) := by decide +kernel
theorem dX5_parsley_2 : decode cX5_parsley 2 = .ok (.getfield 254, 3) := by decide +kernel
theorem dX5_parsley_5 : decode cX5_parsley 5 = .ok (.ldc2_w 296, 3) := by decide +kernel
theorem dX5_parsley_8 : decode cX5_parsley 8 = .ok (.ladd, 1) := by decide +kernel
theorem dX5_parsley_9 : decode cX5_parsley 9 = .ok (.putfield 254, 3) := by decide +kernel
theorem dX5_parsley_12 : decode cX5_parsley 12 = .ok (.aload_n 0, 1) := by decide +kernel
theorem dX5_parsley_13 : decode cX5_parsley 13 = .ok (.iload_n 1, 1) := by decide +kernel
theorem dX5_parsley_14 : decode cX5_parsley 14 = .ok (.invokevirtual 222, 3) := by decide +kernel
theorem dX5_parsley_17 : decode cX5_parsley 17 = .ok (.aload_n 0, 1) := by decide +kernel
theorem dX5_parsley_18 : decode cX5_parsley 18 = .ok (.getfield 29, 3) := by decide +kernel
theorem dX5_parsley_21 : decode cX5_parsley 21 = .ok (.getfield 110, 3) := by decide +kernel
theorem dX5_parsley_24 : decode cX5_parsley 24 = .ok (.iload_n 1, 1) := by decide +kernel
theorem dX5_parsley_25 : decode cX5_parsley 25 = .ok (.iaload, 1) := by decide +kernel
theorem dX5_parsley_26 : decode cX5_parsley 26 = .ok (.invokestatic 132, 3) := by decide +kernel
theorem dX5_parsley_29 : decode cX5_parsley 29 = .ok (.isub, 1) := by decide +kernel
theorem dX5_parsley_30 : decode cX5_parsley 30 = .ok (.ireturn, 1) := by decide +kernel
theorem dX5_leader_0 : decode cX5_leader 0 = .ok (.aload_n 0, 1) := by decide +kernel
theorem dX5_leader_1 : decode cX5_leader 1 = .ok (.dup, 1) := by decide +kernel
theorem dX5_leader_2 : decode cX5_leader 2 = .ok (.getfield 254, 3) := by decide +kernel
theorem dX5_leader_5 : decode cX5_leader 5 = .ok (.ldc2_w 298, 3) := by decide +kernel
theorem dX5_leader_8 : decode cX5_leader 8 = .ok (.ladd, 1) := by decide +kernel
theorem dX5_leader_9 : decode cX5_leader 9 = .ok (.putfield 254, 3) := by decide +kernel
theorem dX5_leader_12 : decode cX5_leader 12 = .ok (.iconst 2, 1) := by decide +kernel
theorem dX5_leader_13 : decode cX5_leader 13 = .ok (.aload_n 0, 1) := by decide +kernel
theorem dX5_leader_14 : decode cX5_leader 14 = .ok (.iload_n 1, 1) := by decide +kernel
theorem dX5_leader_15 : decode cX5_leader 15 = .ok (.invokevirtual 225, 3) := by decide +kernel
theorem dX5_leader_18 : decode cX5_leader 18 = .ok (.imul, 1) := by decide +kernel
theorem dX5_leader_19 : decode cX5_leader 19 = .ok (.ireturn, 1) := by decide +kernel
theorem dX5_carrot_0 : decode cX5_carrot 0 = .ok (.aload_n 0, 1) := by decide +kernel
theorem dX5_carrot_1 : decode cX5_carrot 1 = .ok (.dup, 1) := by decide +kernel
theorem dX5_carrot_2 : decode cX5_carrot 2 = .ok (.getfield 254, 3) := by decide +kernel
theorem dX5_carrot_5 : decode cX5_carrot 5 = .ok (.ldc2_w 300, 3) := by decide +kernel
theorem dX5_carrot_8 : decode cX5_carrot 8 = .ok (.ladd, 1) := by decide +kernel
theorem dX5_carrot_9 : decode cX5_carrot 9 = .ok (.putfield 254, 3) := by decide +kernel
theorem dX5_carrot_12 : decode cX5_carrot 12 = .ok (.aload_n 0, 1) := by decide +kernel
theorem dX5_carrot_13 : decode cX5_carrot 13 = .ok (.iload_n 1, 1) := by decide +kernel
theorem dX5_carrot_14 : decode cX5_carrot 14 = .ok (.invokevirtual 228, 3) := by decide +kernel
theorem dX5_carrot_17 : decode cX5_carrot 17 = .ok (.iload_n 1, 1) := by decide +kernel
theorem dX5_carrot_18 : decode cX5_carrot 18 = .ok (.iadd, 1) := by decide +kernel
theorem dX5_carrot_19 : decode cX5_carrot 19 = .ok (.ireturn, 1) := by decide +kernel
theorem dX5_bay_0 : decode cX5_bay 0 = .ok (.aload_n 0, 1) := by decide +kernel
theorem dX5_bay_1 : decode cX5_bay 1 = .ok (.dup, 1) := by decide +kernel
theorem dX5_bay_2 : decode cX5_bay 2 = .ok (.getfield 254, 3) := by decide +kernel
theorem dX5_bay_5 : decode cX5_bay 5 = .ok (.ldc2_w 302, 3) := by decide +kernel
theorem dX5_bay_8 : decode cX5_bay 8 = .ok (.ladd, 1) := by decide +kernel
theorem dX5_bay_9 : decode cX5_bay 9 = .ok (.putfield 254, 3) := by decide +kernel
theorem dX5_bay_12 : decode cX5_bay 12 = .ok (.aload_n 0, 1) := by decide +kernel
theorem dX5_bay_13 : decode cX5_bay 13 = .ok (.iload_n 1, 1) := by decide +kernel
theorem dX5_bay_14 : decode cX5_bay 14 = .ok (.invokevirtual 222, 3) := by decide +kernel
theorem dX5_bay_17 : decode cX5_bay 17 = .ok (.aload_n 0, 1) := by decide +kernel
theorem dX5_bay_18 : decode cX5_bay 18 = .ok (.getfield 29, 3) := by decide +kernel
theorem dX5_bay_21 : decode cX5_bay 21 = .ok (.getfield 119, 3) := by decide +kernel
theorem dX5_bay_24 : decode cX5_bay 24 = .ok (.iadd, 1) := by decide +kernel
theorem dX5_bay_25 : decode cX5_bay 25 = .ok (.ireturn, 1) := by decide +kernel
theorem dX6_init_0 : decode cX6_init 0 = .ok (.aload_n 0, 1) := by decide +kernel
theorem dX6_init_1 : decode cX6_init 1 = .ok (.invokespecial 1, 3) := by decide +kernel
theorem dX6_init_4 : decode cX6_init 4 = .ok (.aload_n 0, 1) := by decide +kernel
theorem dX6_init_5 : decode cX6_init 5 = .ok (.bipush 6, 2) := by decide +kernel
theorem dX6_init_7 : decode cX6_init 7 = .ok (.newarray .int, 2) := by decide +kernel
theorem dX6_init_9 : decode cX6_init 9 = .ok (.putfield 7, 3) := by decide +kernel
theorem dX6_init_12 : decode cX6_init 12 = .ok (.aload_n 0, 1) := by decide +kernel
theorem dX6_init_13 : decode cX6_init 13 = .ok (.bipush 6, 2) := by decide +kernel
theorem dX6_init_15 : decode cX6_init 15 = .ok (.newarray .int, 2) := by decide +kernel
theorem dX6_init_17 : decode cX6_init 17 = .ok (.putfield 13, 3) := by decide +kernel
theorem dX6_init_20 : decode cX6_init 20 = .ok (.aload_n 0, 1) := by decide +kernel
theorem dX6_init_21 : decode cX6_init 21 = .ok (.bipush 6, 2) := by decide +kernel
theorem dX6_init_23 : decode cX6_init 23 = .ok (.newarray .int, 2) := by decide +kernel
theorem dX6_init_25 : decode cX6_init 25 = .ok (.putfield 16, 3) := by decide +kernel
theorem dX6_init_28 : decode cX6_init 28 = .ok (.aload_n 0, 1) := by decide +kernel
theorem dX6_init_29 : decode cX6_init 29 = .ok (.iconst 3, 1) := by decide +kernel
theorem dX6_init_30 : decode cX6_init 30 = .ok (.putfield 19, 3) := by decide +kernel
theorem dX6_init_33 : decode cX6_init 33 = .ok (.aload_n 0, 1) := by decide +kernel
theorem dX6_init_34 : decode cX6_init 34 = .ok (.iconst 1, 1) := by decide +kernel
theorem dX6_init_35 : decode cX6_init 35 = .ok (.putfield 23, 3) := by decide +kernel
theorem dX6_init_38 : decode cX6_init 38 = .ok (.aload_n 0, 1) := by decide +kernel
theorem dX6_init_39 : decode cX6_init 39 = .ok (.bipush 20, 2) := by decide +kernel
theorem dX6_init_41 : decode cX6_init 41 = .ok (.putfield 26, 3) := by decide +kernel
theorem dX6_init_44 : decode cX6_init 44 = .ok (.aload_n 0, 1) := by decide +kernel
theorem dX6_init_45 : decode cX6_init 45 = .ok (.bipush 26, 2) := by decide +kernel
theorem dX6_init_47 : decode cX6_init 47 = .ok (.newarray .int, 2) := by decide +kernel
theorem dX6_init_49 : decode cX6_init 49 = .ok (.putfield 29, 3) := by decide +kernel
theorem dX6_init_52 : decode cX6_init 52 = .ok (.aload_n 0, 1) := by decide +kernel
theorem dX6_init_53 : decode cX6_init 53 = .ok (.sipush 260, 3) := by decide +kernel
theorem dX6_init_56 : decode cX6_init 56 = .ok (.newarray .int, 2) := by decide +kernel
theorem dX6_init_58 : decode cX6_init 58 = .ok (.putfield 32, 3) := by decide +kernel
theorem dX6_init_61 : decode cX6_init 61 = .ok (.aload_n 0, 1) := by decide +kernel
theorem dX6_init_62 : decode cX6_init 62 = .ok (.bipush 52, 2) := by decide +kernel
theorem dX6_init_64 : decode cX6_init 64 = .ok (.newarray .int, 2) := by decide +kernel
theorem dX6_init_66 : decode cX6_init 66 = .ok (.putfield 35, 3) := by decide +kernel
theorem dX6_init_69 : decode cX6_init 69 = .ok (.aload_n 0, 1) := by decide +kernel
theorem dX6_init_70 : decode cX6_init 70 = .ok (.iconst 2, 1) := by decide +kernel
theorem dX6_init_71 : decode cX6_init 71 = .ok (.newarray .boolean, 2) := by decide +kernel
theorem dX6_init_73 : decode cX6_init 73 = .ok (.putfield 38, 3) := by decide +kernel
theorem dX6_init_76 : decode cX6_init 76 = .ok (.aload_n 0, 1) := by decide +kernel
theorem dX6_init_77 : decode cX6_init 77 = .ok (.bipush 18, 2) := by decide +kernel
theorem dX6_init_79 : decode cX6_init 79 = .ok (.newarray .int, 2) := by decide +kernel
theorem dX6_init_81 : decode cX6_init 81 = .ok (.putfield 42, 3) := by decide +kernel
theorem dX6_init_84 : decode cX6_init 84 = .ok (.aload_n 0, 1) := by decide +kernel
theorem dX6_init_85 : decode cX6_init 85 = .ok (.bipush 120, 2) := by decide +kernel
theorem dX6_init_87 : decode cX6_init 87 = .ok (.newarray .int, 2) := by decide +kernel
theorem dX6_init_89 : decode cX6_init 89 = .ok (.putfield 45, 3) := by decide +kernel
theorem dX6_init_92 : decode cX6_init 92 = .ok (.aload_n 0, 1) := by decide +kernel
theorem dX6_init_93 : decode cX6_init 93 = .ok (.bipush 24, 2) := by decide +kernel
theorem dX6_init_95 : decode cX6_init 95 = .ok (.newarray .int, 2) := by decide +kernel
theorem dX6_init_97 : decode cX6_init 97 = .ok (.putfield 48, 3) := by decide +kernel
theorem dX6_init_100 : decode cX6_init 100 = .ok (.aload_n 0, 1) := by decide +kernel
theorem dX6_init_101 : decode cX6_init 101 = .ok (.bipush 26, 2) := by decide +kernel
theorem dX6_init_103 : decode cX6_init 103 = .ok (.newarray .int, 2) := by decide +kernel
theorem dX6_init_105 : decode cX6_init 105 = .ok (.putfield 51, 3) := by decide +kernel
theorem dX6_init_108 : decode cX6_init 108 = .ok (.aload_n 0, 1) := by decide +kernel
theorem dX6_init_109 : decode cX6_init 109 = .ok (.bipush 64, 2) := by decide +kernel
theorem dX6_init_111 : decode cX6_init 111 = .ok (.newarray .int, 2) := by decide +kernel
theorem dX6_init_113 : decode cX6_init 113 = .ok (.putfield 54, 3) := by decide +kernel
theorem dX6_init_116 : decode cX6_init 116 = .ok (.aload_n 0, 1) := by decide +kernel
theorem dX6_init_117 : decode cX6_init 117 = .ok (.bipush 11, 2) := by decide +kernel
theorem dX6_init_119 : decode cX6_init 119 = .ok (.newarray .int, 2) := by decide +kernel
theorem dX6_init_121 : decode cX6_init 121 = .ok (.putfield 57, 3) := by decide +kernel
theorem dX6_init_124 : decode cX6_init 124 = .ok (.aload_n 0, 1) := by decide +kernel
theorem dX6_init_125 : decode cX6_init 125 = .ok (.getfield 29, 3) := by decide +kernel
theorem dX6_init_128 : decode cX6_init 128 = .ok (.iconst 1, 1) := by decide +kernel
theorem dX6_init_129 : decode cX6_init 129 = .ok (.iconst 3, 1) := by decide +kernel
theorem dX6_init_130 : decode cX6_init 130 = .ok (.iastore, 1) := by decide +kernel
theorem dX6_init_131 : decode cX6_init 131 = .ok (.return_, 1) := by decide +kernel
theorem dX6_in_0 : decode cX6_in 0 = .ok (.iload_n 0, 1) := by decide +kernel
theorem dX6_in_1 : decode cX6_in 1 = .ok (.iload_n 1, 1) := by decide +kernel
theorem dX6_in_2 : decode cX6_in 2 = .ok (.if_icmp .lt 12, 3) := by decide +kernel
theorem dX6_in_5 : decode cX6_in 5 = .ok (.iload_n 0, 1) := by decide +kernel
theorem dX6_in_6 : decode cX6_in 6 = .ok (.iload_n 2, 1) := by decide +kernel
theorem dX6_in_7 : decode cX6_in 7 = .ok (.if_icmp .gt 7, 3) := by decide +kernel
theorem dX6_in_10 : decode cX6_in 10 = .ok (.iconst 1, 1) := by decide +kernel
theorem dX6_in_11 : decode cX6_in 11 = .ok (.goto 4, 3) := by decide +kernel
theorem dX6_in_14 : decode cX6_in 14 = .ok (.iconst 0, 1) := by decide +kernel
theorem dX6_in_15 : decode cX6_in 15 = .ok (.ireturn, 1) := by decide +kernel
theorem dX6_has_0 : decode cX6_has 0 = .ok (.iload_n 0, 1) := by decide +kernel
theorem dX6_has_1 : decode cX6_has 1 = .ok (.iload_n 1, 1) := by decide +kernel
theorem dX6_has_2 : decode cX6_has 2 = .ok (.ishr, 1) := by decide +kernel
theorem dX6_has_3 : decode cX6_has 3 = .ok (.iconst 1, 1) := by decide +kernel
theorem dX6_has_4 : decode cX6_has 4 = .ok (.iand, 1) := by decide +kernel
theorem dX6_has_5 : decode cX6_has 5 = .ok (.iconst 1, 1) := by decide +kernel
theorem dX6_has_6 : decode cX6_has 6 = .ok (.if_icmp .ne 7, 3) := by decide +kernel
theorem dX6_has_9 : decode cX6_has 9 = .ok (.iconst 1, 1) := by decide +kernel
theorem dX6_has_10 : decode cX6_has 10 = .ok (.goto 4, 3) := by decide +kernel
theorem dX6_has_13 : decode cX6_has 13 = .ok (.iconst 0, 1) := by decide +kernel
theorem dX6_has_14 : decode cX6_has 14 = .ok (.ireturn, 1) := by decide +kernel
theorem dX6_bits_0 : decode cX6_bits 0 = .ok (.iconst 0, 1) := by decide +kernel
theorem dX6_bits_1 : decode cX6_bits 1 = .ok (.istore_n 1, 1) := by decide +kernel
theorem dX6_bits_2 : decode cX6_bits 2 = .ok (.iconst 0, 1) := by decide +kernel
theorem dX6_bits_3 : decode cX6_bits 3 = .ok (.istore_n 2, 1) := by decide +kernel
theorem dX6_bits_4 : decode cX6_bits 4 = .ok (.iload_n 2, 1) := by decide +kernel
theorem dX6_bits_5 : decode cX6_bits 5 = .ok (.bipush 6, 2) := by decide +kernel
theorem dX6_bits_7 : decode cX6_bits 7 = .ok (.if_icmp .ge 17, 3) := by decide +kernel
theorem dX6_bits_10 : decode cX6_bits 10 = .ok (.iload_n 1, 1) := by decide +kernel
theorem dX6_bits_11 : decode cX6_bits 11 = .ok (.iload_n 0, 1) := by decide +kernel
theorem dX6_bits_12 : decode cX6_bits 12 = .ok (.iload_n 2, 1) := by decide +kernel
theorem dX6_bits_13 : decode cX6_bits 13 = .ok (.ishr, 1) := by decide +kernel
theorem dX6_bits_14 : decode cX6_bits 14 = .ok (.iconst 1, 1) := by decide +kernel
theorem dX6_bits_15 : decode cX6_bits 15 = .ok (.iand, 1) := by decide +kernel
theorem dX6_bits_16 : decode cX6_bits 16 = .ok (.iadd, 1) := by decide +kernel
theorem dX6_bits_17 : decode cX6_bits 17 = .ok (.istore_n 1, 1) := by decide +kernel
theorem dX6_bits_18 : decode cX6_bits 18 = .ok (.iinc 2 1, 3) := by decide +kernel
theorem dX6_bits_21 : decode cX6_bits 21 = .ok (.goto (-17), 3) := by decide +kernel
theorem dX6_bits_24 : decode cX6_bits 24 = .ok (.iload_n 1, 1) := by decide +kernel
theorem dX6_bits_25 : decode cX6_bits 25 = .ok (.ireturn, 1) := by decide +kernel
theorem dX6_isOne_0 : decode cX6_isOne 0 = .ok (.iload_n 1, 1) := by decide +kernel
theorem dX6_isOne_1 : decode cX6_isOne 1 = .ok (.iconst 0, 1) := by decide +kernel
theorem dX6_isOne_2 : decode cX6_isOne 2 = .ok (.aload_n 0, 1) := by decide +kernel
theorem dX6_isOne_3 : decode cX6_isOne 3 = .ok (.getfield 60, 3) := by decide +kernel
theorem dX6_isOne_6 : decode cX6_isOne 6 = .ok (.iconst 1, 1) := by decide +kernel
theorem dX6_isOne_7 : decode cX6_isOne 7 = .ok (.isub, 1) := by decide +kernel
theorem dX6_isOne_8 : decode cX6_isOne 8 = .ok (.invokestatic 63, 3) := by decide +kernel
theorem dX6_isOne_11 : decode cX6_isOne 11 = .ok (.ireturn, 1) := by decide +kernel
theorem dX6_copy_0 : decode cX6_copy 0 = .ok (.iconst 0, 1) := by decide +kernel
theorem dX6_copy_1 : decode cX6_copy 1 = .ok (.istore 4, 2) := by decide +kernel
theorem dX6_copy_3 : decode cX6_copy 3 = .ok (.iload 4, 2) := by decide +kernel
theorem dX6_copy_5 : decode cX6_copy 5 = .ok (.bipush 26, 2) := by decide +kernel
theorem dX6_copy_7 : decode cX6_copy 7 = .ok (.if_icmp .ge 21, 3) := by decide +kernel
theorem dX6_copy_10 : decode cX6_copy 10 = .ok (.aload_n 0, 1) := by decide +kernel
theorem dX6_copy_11 : decode cX6_copy 11 = .ok (.iload_n 1, 1) := by decide +kernel
theorem dX6_copy_12 : decode cX6_copy 12 = .ok (.iload 4, 2) := by decide +kernel
theorem dX6_copy_14 : decode cX6_copy 14 = .ok (.iadd, 1) := by decide +kernel
theorem dX6_copy_15 : decode cX6_copy 15 = .ok (.aload_n 2, 1) := by decide +kernel
theorem dX6_copy_16 : decode cX6_copy 16 = .ok (.iload_n 3, 1) := by decide +kernel
theorem dX6_copy_17 : decode cX6_copy 17 = .ok (.iload 4, 2) := by decide +kernel
theorem dX6_copy_19 : decode cX6_copy 19 = .ok (.iadd, 1) := by decide +kernel
theorem dX6_copy_20 : decode cX6_copy 20 = .ok (.iaload, 1) := by decide +kernel
theorem dX6_copy_21 : decode cX6_copy 21 = .ok (.iastore, 1) := by decide +kernel
theorem dX6_copy_22 : decode cX6_copy 22 = .ok (.iinc 4 1, 3) := by decide +kernel
theorem dX6_copy_25 : decode cX6_copy 25 = .ok (.goto (-22), 3) := by decide +kernel
theorem dX6_copy_28 : decode cX6_copy 28 = .ok (.return_, 1) := by decide +kernel
theorem dX6_type_0 : decode cX6_type 0 = .ok (.iload_n 1, 1) := by decide +kernel
theorem dX6_type_1 : decode cX6_type 1 = .ok (.iconst 0, 1) := by decide +kernel
theorem dX6_type_2 : decode cX6_type 2 = .ok (.sipush 255, 3) := by decide +kernel
theorem dX6_type_5 : decode cX6_type 5 = .ok (.invokestatic 63, 3) := by decide +kernel
theorem dX6_type_8 : decode cX6_type 8 = .ok (.ifCond .ne 5, 3) := by decide +kernel
theorem dX6_type_11 : decode cX6_type 11 = .ok (.iconst (-1), 1) := by decide +kernel
theorem dX6_type_12 : decode cX6_type 12 = .ok (.ireturn, 1) := by decide +kernel
theorem dX6_type_13 : decode cX6_type 13 = .ok (.aload_n 0, 1) := by decide +kernel
theorem dX6_type_14 : decode cX6_type 14 = .ok (.getfield 67, 3) := by decide +kernel
theorem dX6_type_17 : decode cX6_type 17 = .ok (.bipush 120, 2) := by decide +kernel
theorem dX6_type_19 : decode cX6_type 19 = .ok (.if_icmp .ne 6, 3) := by decide +kernel
theorem dX6_type_22 : decode cX6_type 22 = .ok (.bipush (-3), 2) := by decide +kernel
theorem dX6_type_24 : decode cX6_type 24 = .ok (.ireturn, 1) := by decide +kernel
theorem dX6_type_25 : decode cX6_type 25 = .ok (.aload_n 0, 1) := by decide +kernel
theorem dX6_type_26 : decode cX6_type 26 = .ok (.getfield 45, 3) := by decide +kernel
theorem dX6_type_29 : decode cX6_type 29 = .ok (.aload_n 0, 1) := by decide +kernel
theorem dX6_type_30 : decode cX6_type 30 = .ok (.getfield 67, 3) := by decide +kernel
theorem dX6_type_33 : decode cX6_type 33 = .ok (.iload_n 1, 1) := by decide +kernel
theorem dX6_type_34 : decode cX6_type 34 = .ok (.iastore, 1) := by decide +kernel
theorem dX6_type_35 : decode cX6_type 35 = .ok (.aload_n 0, 1) := by decide +kernel
theorem dX6_type_36 : decode cX6_type 36 = .ok (.dup, 1) := by decide +kernel
theorem dX6_type_37 : decode cX6_type 37 = .ok (.getfield 67, 3) := by decide +kernel
theorem dX6_type_40 : decode cX6_type 40 = .ok (.iconst 1, 1) := by decide +kernel
theorem dX6_type_41 : decode cX6_type 41 = .ok (.iadd, 1) := by decide +kernel
theorem dX6_type_42 : decode cX6_type 42 = .ok (.putfield 67, 3) := by decide +kernel
theorem dX6_type_45 : decode cX6_type 45 = .ok (.aload_n 0, 1) := by decide +kernel
theorem dX6_type_46 : decode cX6_type 46 = .ok (.getfield 67, 3) := by decide +kernel
theorem dX6_type_49 : decode cX6_type 49 = .ok (.ireturn, 1) := by decide +kernel
theorem dX6_clear_0 : decode cX6_clear 0 = .ok (.aload_n 0, 1) := by decide +kernel
theorem dX6_clear_1 : decode cX6_clear 1 = .ok (.getfield 67, 3) := by decide +kernel
theorem dX6_clear_4 : decode cX6_clear 4 = .ok (.istore_n 1, 1) := by decide +kernel
theorem dX6_clear_5 : decode cX6_clear 5 = .ok (.aload_n 0, 1) := by decide +kernel
theorem dX6_clear_6 : decode cX6_clear 6 = .ok (.iconst 0, 1) := by decide +kernel
theorem dX6_clear_7 : decode cX6_clear 7 = .ok (.putfield 67, 3) := by decide +kernel
theorem dX6_clear_10 : decode cX6_clear 10 = .ok (.iload_n 1, 1) := by decide +kernel
theorem dX6_clear_11 : decode cX6_clear 11 = .ok (.ireturn, 1) := by decide +kernel
theorem dX6_letterAt_0 : decode cX6_letterAt 0 = .ok (.iload_n 1, 1) := by decide +kernel
theorem dX6_letterAt_1 : decode cX6_letterAt 1 = .ok (.aload_n 0, 1) := by decide +kernel
theorem dX6_letterAt_2 : decode cX6_letterAt 2 = .ok (.getfield 67, 3) := by decide +kernel
theorem dX6_letterAt_5 : decode cX6_letterAt 5 = .ok (.if_icmp .ge 12, 3) := by decide +kernel
theorem dX6_letterAt_8 : decode cX6_letterAt 8 = .ok (.aload_n 0, 1) := by decide +kernel
theorem dX6_letterAt_9 : decode cX6_letterAt 9 = .ok (.getfield 45, 3) := by decide +kernel
theorem dX6_letterAt_12 : decode cX6_letterAt 12 = .ok (.iload_n 1, 1) := by decide +kernel
theorem dX6_letterAt_13 : decode cX6_letterAt 13 = .ok (.iaload, 1) := by decide +kernel
theorem dX6_letterAt_14 : decode cX6_letterAt 14 = .ok (.goto 4, 3) := by decide +kernel
theorem dX6_letterAt_17 : decode cX6_letterAt 17 = .ok (.iconst (-1), 1) := by decide +kernel
theorem dX6_letterAt_18 : decode cX6_letterAt 18 = .ok (.ireturn, 1) := by decide +kernel
theorem dX6_isFigure_0 : decode cX6_isFigure 0 = .ok (.iload_n 0, 1) := by decide +kernel
theorem dX6_isFigure_1 : decode cX6_isFigure 1 = .ok (.bipush 48, 2) := by decide +kernel
theorem dX6_isFigure_3 : decode cX6_isFigure 3 = .ok (.bipush 57, 2) := by decide +kernel
theorem dX6_isFigure_5 : decode cX6_isFigure 5 = .ok (.invokestatic 63, 3) := by decide +kernel
theorem dX6_isFigure_8 : decode cX6_isFigure 8 = .ok (.ireturn, 1) := by decide +kernel
theorem dX6_next_0 : decode cX6_next 0 = .ok (.aload_n 0, 1) := by decide +kernel
theorem dX6_next_1 : decode cX6_next 1 = .ok (.aload_n 0, 1) := by decide +kernel
theorem dX6_next_2 : decode cX6_next 2 = .ok (.getfield 70, 3) := by decide +kernel
theorem dX6_next_5 : decode cX6_next 5 = .ok (.invokevirtual 73, 3) := by decide +kernel
theorem dX6_next_8 : decode cX6_next 8 = .ok (.bipush 32, 2) := by decide +kernel
theorem dX6_next_10 : decode cX6_next 10 = .ok (.if_icmp .ne 16, 3) := by decide +kernel
theorem dX6_next_13 : decode cX6_next 13 = .ok (.aload_n 0, 1) := by decide +kernel
theorem dX6_next_14 : decode cX6_next 14 = .ok (.dup, 1) := by decide +kernel
theorem dX6_next_15 : decode cX6_next 15 = .ok (.getfield 70, 3) := by decide +kernel
end
section
theorem dX6_next_18 : decode cX6_next 18 = .ok (.iconst 1, 1) := by decide +kernel
theorem dX6_next_19 : decode cX6_next 19 = .ok (.iadd, 1) := by decide +kernel
theorem dX6_next_20 : decode cX6_next 20 = .ok (.putfield 70, 3) := by decide +kernel
theorem dX6_next_23 : decode cX6_next 23 = .ok (.goto (-23), 3) := by decide +kernel
theorem dX6_next_26 : decode cX6_next 26 = .ok (.aload_n 0, 1) := by decide +kernel
theorem dX6_next_27 : decode cX6_next 27 = .ok (.aload_n 0, 1) := by decide +kernel
theorem dX6_next_28 : decode cX6_next 28 = .ok (.getfield 70, 3) := by decide +kernel
theorem dX6_next_31 : decode cX6_next 31 = .ok (.putfield 77, 3) := by decide +kernel
theorem dX6_next_34 : decode cX6_next 34 = .ok (.aload_n 0, 1) := by decide +kernel
theorem dX6_next_35 : decode cX6_next 35 = .ok (.aload_n 0, 1) := by decide +kernel
theorem dX6_next_36 : decode cX6_next 36 = .ok (.getfield 70, 3) := by decide +kernel
theorem dX6_next_39 : decode cX6_next 39 = .ok (.invokevirtual 73, 3) := by decide +kernel
theorem dX6_next_42 : decode cX6_next 42 = .ok (.istore_n 1, 1) := by decide +kernel
theorem dX6_next_43 : decode cX6_next 43 = .ok (.aload_n 0, 1) := by decide +kernel
theorem dX6_next_44 : decode cX6_next 44 = .ok (.iconst 0, 1) := by decide +kernel
theorem dX6_next_45 : decode cX6_next 45 = .ok (.putfield 80, 3) := by decide +kernel
theorem dX6_next_48 : decode cX6_next 48 = .ok (.iload_n 1, 1) := by decide +kernel
theorem dX6_next_49 : decode cX6_next 49 = .ok (.ifCond .ge 11, 3) := by decide +kernel
theorem dX6_next_52 : decode cX6_next 52 = .ok (.aload_n 0, 1) := by decide +kernel
theorem dX6_next_53 : decode cX6_next 53 = .ok (.iconst 0, 1) := by decide +kernel
theorem dX6_next_54 : decode cX6_next 54 = .ok (.putfield 83, 3) := by decide +kernel
theorem dX6_next_57 : decode cX6_next 57 = .ok (.goto 174, 3) := by decide +kernel
theorem dX6_next_60 : decode cX6_next 60 = .ok (.iload_n 1, 1) := by decide +kernel
theorem dX6_next_61 : decode cX6_next 61 = .ok (.invokestatic 86, 3) := by decide +kernel
theorem dX6_next_64 : decode cX6_next 64 = .ok (.ifCond .eq 109, 3) := by decide +kernel
theorem dX6_next_67 : decode cX6_next 67 = .ok (.aload_n 0, 1) := by decide +kernel
theorem dX6_next_68 : decode cX6_next 68 = .ok (.aload_n 0, 1) := by decide +kernel
theorem dX6_next_69 : decode cX6_next 69 = .ok (.getfield 70, 3) := by decide +kernel
theorem dX6_next_72 : decode cX6_next 72 = .ok (.invokevirtual 73, 3) := by decide +kernel
theorem dX6_next_75 : decode cX6_next 75 = .ok (.invokestatic 86, 3) := by decide +kernel
theorem dX6_next_78 : decode cX6_next 78 = .ok (.ifCond .eq 55, 3) := by decide +kernel
theorem dX6_next_81 : decode cX6_next 81 = .ok (.aload_n 0, 1) := by decide +kernel
theorem dX6_next_82 : decode cX6_next 82 = .ok (.aload_n 0, 1) := by decide +kernel
theorem dX6_next_83 : decode cX6_next 83 = .ok (.getfield 80, 3) := by decide +kernel
theorem dX6_next_86 : decode cX6_next 86 = .ok (.bipush 99, 2) := by decide +kernel
theorem dX6_next_88 : decode cX6_next 88 = .ok (.if_icmp .le 10, 3) := by decide +kernel
theorem dX6_next_91 : decode cX6_next 91 = .ok (.aload_n 0, 1) := by decide +kernel
theorem dX6_next_92 : decode cX6_next 92 = .ok (.getfield 80, 3) := by decide +kernel
theorem dX6_next_95 : decode cX6_next 95 = .ok (.goto 22, 3) := by decide +kernel
theorem dX6_next_98 : decode cX6_next 98 = .ok (.bipush 10, 2) := by decide +kernel
theorem dX6_next_100 : decode cX6_next 100 = .ok (.aload_n 0, 1) := by decide +kernel
theorem dX6_next_101 : decode cX6_next 101 = .ok (.getfield 80, 3) := by decide +kernel
theorem dX6_next_104 : decode cX6_next 104 = .ok (.imul, 1) := by decide +kernel
theorem dX6_next_105 : decode cX6_next 105 = .ok (.aload_n 0, 1) := by decide +kernel
theorem dX6_next_106 : decode cX6_next 106 = .ok (.aload_n 0, 1) := by decide +kernel
theorem dX6_next_107 : decode cX6_next 107 = .ok (.getfield 70, 3) := by decide +kernel
theorem dX6_next_110 : decode cX6_next 110 = .ok (.invokevirtual 73, 3) := by decide +kernel
theorem dX6_next_113 : decode cX6_next 113 = .ok (.iadd, 1) := by decide +kernel
theorem dX6_next_114 : decode cX6_next 114 = .ok (.bipush 48, 2) := by decide +kernel
theorem dX6_next_116 : decode cX6_next 116 = .ok (.isub, 1) := by decide +kernel
theorem dX6_next_117 : decode cX6_next 117 = .ok (.putfield 80, 3) := by decide +kernel
theorem dX6_next_120 : decode cX6_next 120 = .ok (.aload_n 0, 1) := by decide +kernel
theorem dX6_next_121 : decode cX6_next 121 = .ok (.dup, 1) := by decide +kernel
theorem dX6_next_122 : decode cX6_next 122 = .ok (.getfield 70, 3) := by decide +kernel
theorem dX6_next_125 : decode cX6_next 125 = .ok (.iconst 1, 1) := by decide +kernel
theorem dX6_next_126 : decode cX6_next 126 = .ok (.iadd, 1) := by decide +kernel
theorem dX6_next_127 : decode cX6_next 127 = .ok (.putfield 70, 3) := by decide +kernel
theorem dX6_next_130 : decode cX6_next 130 = .ok (.goto (-63), 3) := by decide +kernel
theorem dX6_next_133 : decode cX6_next 133 = .ok (.aload_n 0, 1) := by decide +kernel
theorem dX6_next_134 : decode cX6_next 134 = .ok (.aload_n 0, 1) := by decide +kernel
theorem dX6_next_135 : decode cX6_next 135 = .ok (.getfield 80, 3) := by decide +kernel
theorem dX6_next_138 : decode cX6_next 138 = .ok (.bipush 99, 2) := by decide +kernel
theorem dX6_next_140 : decode cX6_next 140 = .ok (.if_icmp .gt 22, 3) := by decide +kernel
theorem dX6_next_143 : decode cX6_next 143 = .ok (.iload_n 1, 1) := by decide +kernel
theorem dX6_next_144 : decode cX6_next 144 = .ok (.bipush 48, 2) := by decide +kernel
theorem dX6_next_146 : decode cX6_next 146 = .ok (.if_icmp .ne 20, 3) := by decide +kernel
theorem dX6_next_149 : decode cX6_next 149 = .ok (.aload_n 0, 1) := by decide +kernel
theorem dX6_next_150 : decode cX6_next 150 = .ok (.getfield 70, 3) := by decide +kernel
theorem dX6_next_153 : decode cX6_next 153 = .ok (.aload_n 0, 1) := by decide +kernel
theorem dX6_next_154 : decode cX6_next 154 = .ok (.getfield 77, 3) := by decide +kernel
theorem dX6_next_157 : decode cX6_next 157 = .ok (.isub, 1) := by decide +kernel
theorem dX6_next_158 : decode cX6_next 158 = .ok (.iconst 1, 1) := by decide +kernel
theorem dX6_next_159 : decode cX6_next 159 = .ok (.if_icmp .le 7, 3) := by decide +kernel
theorem dX6_next_162 : decode cX6_next 162 = .ok (.iconst 4, 1) := by decide +kernel
theorem dX6_next_163 : decode cX6_next 163 = .ok (.goto 4, 3) := by decide +kernel
theorem dX6_next_166 : decode cX6_next 166 = .ok (.iconst 2, 1) := by decide +kernel
theorem dX6_next_167 : decode cX6_next 167 = .ok (.putfield 83, 3) := by decide +kernel
theorem dX6_next_170 : decode cX6_next 170 = .ok (.goto 61, 3) := by decide +kernel
theorem dX6_next_173 : decode cX6_next 173 = .ok (.aload_n 0, 1) := by decide +kernel
theorem dX6_next_174 : decode cX6_next 174 = .ok (.iload_n 1, 1) := by decide +kernel
theorem dX6_next_175 : decode cX6_next 175 = .ok (.bipush 100, 2) := by decide +kernel
theorem dX6_next_177 : decode cX6_next 177 = .ok (.if_icmp .eq 21, 3) := by decide +kernel
theorem dX6_next_180 : decode cX6_next 180 = .ok (.iload_n 1, 1) := by decide +kernel
theorem dX6_next_181 : decode cX6_next 181 = .ok (.bipush 104, 2) := by decide +kernel
theorem dX6_next_183 : decode cX6_next 183 = .ok (.if_icmp .eq 15, 3) := by decide +kernel
theorem dX6_next_186 : decode cX6_next 186 = .ok (.iload_n 1, 1) := by decide +kernel
theorem dX6_next_187 : decode cX6_next 187 = .ok (.bipush 103, 2) := by decide +kernel
theorem dX6_next_189 : decode cX6_next 189 = .ok (.if_icmp .eq 9, 3) := by decide +kernel
theorem dX6_next_192 : decode cX6_next 192 = .ok (.iload_n 1, 1) := by decide +kernel
theorem dX6_next_193 : decode cX6_next 193 = .ok (.bipush 114, 2) := by decide +kernel
theorem dX6_next_195 : decode cX6_next 195 = .ok (.if_icmp .ne 7, 3) := by decide +kernel
theorem dX6_next_198 : decode cX6_next 198 = .ok (.iconst 1, 1) := by decide +kernel
theorem dX6_next_199 : decode cX6_next 199 = .ok (.goto 14, 3) := by decide +kernel
theorem dX6_next_202 : decode cX6_next 202 = .ok (.iload_n 1, 1) := by decide +kernel
theorem dX6_next_203 : decode cX6_next 203 = .ok (.bipush 59, 2) := by decide +kernel
theorem dX6_next_205 : decode cX6_next 205 = .ok (.if_icmp .ne 7, 3) := by decide +kernel
theorem dX6_next_208 : decode cX6_next 208 = .ok (.iconst 3, 1) := by decide +kernel
theorem dX6_next_209 : decode cX6_next 209 = .ok (.goto 4, 3) := by decide +kernel
theorem dX6_next_212 : decode cX6_next 212 = .ok (.iconst 4, 1) := by decide +kernel
theorem dX6_next_213 : decode cX6_next 213 = .ok (.putfield 83, 3) := by decide +kernel
theorem dX6_next_216 : decode cX6_next 216 = .ok (.aload_n 0, 1) := by decide +kernel
theorem dX6_next_217 : decode cX6_next 217 = .ok (.iload_n 1, 1) := by decide +kernel
theorem dX6_next_218 : decode cX6_next 218 = .ok (.putfield 80, 3) := by decide +kernel
theorem dX6_next_221 : decode cX6_next 221 = .ok (.aload_n 0, 1) := by decide +kernel
theorem dX6_next_222 : decode cX6_next 222 = .ok (.dup, 1) := by decide +kernel
theorem dX6_next_223 : decode cX6_next 223 = .ok (.getfield 70, 3) := by decide +kernel
theorem dX6_next_226 : decode cX6_next 226 = .ok (.iconst 1, 1) := by decide +kernel
theorem dX6_next_227 : decode cX6_next 227 = .ok (.iadd, 1) := by decide +kernel
theorem dX6_next_228 : decode cX6_next 228 = .ok (.putfield 70, 3) := by decide +kernel
theorem dX6_next_231 : decode cX6_next 231 = .ok (.return_, 1) := by decide +kernel
theorem dX6_takesNumber_0 : decode cX6_takesNumber 0 = .ok (.aload_n 0, 1) := by decide +kernel
theorem dX6_takesNumber_1 : decode cX6_takesNumber 1 = .ok (.getfield 90, 3) := by decide +kernel
theorem dX6_takesNumber_4 : decode cX6_takesNumber 4 = .ok (.ifCond .ne 27, 3) := by decide +kernel
theorem dX6_takesNumber_7 : decode cX6_takesNumber 7 = .ok (.aload_n 0, 1) := by decide +kernel
theorem dX6_takesNumber_8 : decode cX6_takesNumber 8 = .ok (.getfield 83, 3) := by decide +kernel
theorem dX6_takesNumber_11 : decode cX6_takesNumber 11 = .ok (.iconst 2, 1) := by decide +kernel
theorem dX6_takesNumber_12 : decode cX6_takesNumber 12 = .ok (.if_icmp .ne 19, 3) := by decide +kernel
theorem dX6_takesNumber_15 : decode cX6_takesNumber 15 = .ok (.aload_n 0, 1) := by decide +kernel
theorem dX6_takesNumber_16 : decode cX6_takesNumber 16 = .ok (.getfield 80, 3) := by decide +kernel
theorem dX6_takesNumber_19 : decode cX6_takesNumber 19 = .ok (.iload_n 1, 1) := by decide +kernel
theorem dX6_takesNumber_20 : decode cX6_takesNumber 20 = .ok (.iload_n 2, 1) := by decide +kernel
theorem dX6_takesNumber_21 : decode cX6_takesNumber 21 = .ok (.invokestatic 63, 3) := by decide +kernel
theorem dX6_takesNumber_24 : decode cX6_takesNumber 24 = .ok (.ifCond .eq 7, 3) := by decide +kernel
theorem dX6_takesNumber_27 : decode cX6_takesNumber 27 = .ok (.iconst 1, 1) := by decide +kernel
theorem dX6_takesNumber_28 : decode cX6_takesNumber 28 = .ok (.goto 4, 3) := by decide +kernel
theorem dX6_takesNumber_31 : decode cX6_takesNumber 31 = .ok (.iconst 0, 1) := by decide +kernel
theorem dX6_takesNumber_32 : decode cX6_takesNumber 32 = .ok (.istore_n 3, 1) := by decide +kernel
theorem dX6_takesNumber_33 : decode cX6_takesNumber 33 = .ok (.aload_n 0, 1) := by decide +kernel
theorem dX6_takesNumber_34 : decode cX6_takesNumber 34 = .ok (.iload_n 3, 1) := by decide +kernel
theorem dX6_takesNumber_35 : decode cX6_takesNumber 35 = .ok (.ifCond .ne 7, 3) := by decide +kernel
theorem dX6_takesNumber_38 : decode cX6_takesNumber 38 = .ok (.iconst 1, 1) := by decide +kernel
theorem dX6_takesNumber_39 : decode cX6_takesNumber 39 = .ok (.goto 4, 3) := by decide +kernel
theorem dX6_takesNumber_42 : decode cX6_takesNumber 42 = .ok (.iconst 0, 1) := by decide +kernel
theorem dX6_takesNumber_43 : decode cX6_takesNumber 43 = .ok (.putfield 90, 3) := by decide +kernel
theorem dX6_takesNumber_46 : decode cX6_takesNumber 46 = .ok (.aload_n 0, 1) := by decide +kernel
theorem dX6_takesNumber_47 : decode cX6_takesNumber 47 = .ok (.getfield 80, 3) := by decide +kernel
theorem dX6_takesNumber_50 : decode cX6_takesNumber 50 = .ok (.istore 4, 2) := by decide +kernel
theorem dX6_takesNumber_52 : decode cX6_takesNumber 52 = .ok (.iload_n 3, 1) := by decide +kernel
theorem dX6_takesNumber_53 : decode cX6_takesNumber 53 = .ok (.ifCond .eq 7, 3) := by decide +kernel
theorem dX6_takesNumber_56 : decode cX6_takesNumber 56 = .ok (.aload_n 0, 1) := by decide +kernel
theorem dX6_takesNumber_57 : decode cX6_takesNumber 57 = .ok (.invokevirtual 94, 3) := by decide +kernel
theorem dX6_takesNumber_60 : decode cX6_takesNumber 60 = .ok (.iload_n 3, 1) := by decide +kernel
theorem dX6_takesNumber_61 : decode cX6_takesNumber 61 = .ok (.ifCond .eq 8, 3) := by decide +kernel
theorem dX6_takesNumber_64 : decode cX6_takesNumber 64 = .ok (.iload 4, 2) := by decide +kernel
theorem dX6_takesNumber_66 : decode cX6_takesNumber 66 = .ok (.goto 4, 3) := by decide +kernel
theorem dX6_takesNumber_69 : decode cX6_takesNumber 69 = .ok (.iconst 0, 1) := by decide +kernel
theorem dX6_takesNumber_70 : decode cX6_takesNumber 70 = .ok (.ireturn, 1) := by decide +kernel
theorem dX6_mayBegin_0 : decode cX6_mayBegin 0 = .ok (.iload_n 1, 1) := by decide +kernel
theorem dX6_mayBegin_1 : decode cX6_mayBegin 1 = .ok (.tableswitch 76 100 104 #[35, 76, 76, 63, 50], 35) := by decide +kernel
theorem dX6_mayBegin_36 : decode cX6_mayBegin 36 = .ok (.aload_n 0, 1) := by decide +kernel
theorem dX6_mayBegin_37 : decode cX6_mayBegin 37 = .ok (.getfield 97, 3) := by decide +kernel
theorem dX6_mayBegin_40 : decode cX6_mayBegin 40 = .ok (.bipush 6, 2) := by decide +kernel
theorem dX6_mayBegin_42 : decode cX6_mayBegin 42 = .ok (.if_icmp .ge 7, 3) := by decide +kernel
theorem dX6_mayBegin_45 : decode cX6_mayBegin 45 = .ok (.iconst 1, 1) := by decide +kernel
theorem dX6_mayBegin_46 : decode cX6_mayBegin 46 = .ok (.goto 4, 3) := by decide +kernel
theorem dX6_mayBegin_49 : decode cX6_mayBegin 49 = .ok (.iconst 0, 1) := by decide +kernel
theorem dX6_mayBegin_50 : decode cX6_mayBegin 50 = .ok (.ireturn, 1) := by decide +kernel
theorem dX6_mayBegin_51 : decode cX6_mayBegin 51 = .ok (.aload_n 0, 1) := by decide +kernel
theorem dX6_mayBegin_52 : decode cX6_mayBegin 52 = .ok (.getfield 100, 3) := by decide +kernel
theorem dX6_mayBegin_55 : decode cX6_mayBegin 55 = .ok (.ifCond .ge 7, 3) := by decide +kernel
theorem dX6_mayBegin_58 : decode cX6_mayBegin 58 = .ok (.iconst 1, 1) := by decide +kernel
theorem dX6_mayBegin_59 : decode cX6_mayBegin 59 = .ok (.goto 4, 3) := by decide +kernel
theorem dX6_mayBegin_62 : decode cX6_mayBegin 62 = .ok (.iconst 0, 1) := by decide +kernel
theorem dX6_mayBegin_63 : decode cX6_mayBegin 63 = .ok (.ireturn, 1) := by decide +kernel
theorem dX6_mayBegin_64 : decode cX6_mayBegin 64 = .ok (.aload_n 0, 1) := by decide +kernel
theorem dX6_mayBegin_65 : decode cX6_mayBegin 65 = .ok (.getfield 103, 3) := by decide +kernel
theorem dX6_mayBegin_68 : decode cX6_mayBegin 68 = .ok (.ifCond .ge 7, 3) := by decide +kernel
theorem dX6_mayBegin_71 : decode cX6_mayBegin 71 = .ok (.iconst 1, 1) := by decide +kernel
theorem dX6_mayBegin_72 : decode cX6_mayBegin 72 = .ok (.goto 4, 3) := by decide +kernel
theorem dX6_mayBegin_75 : decode cX6_mayBegin 75 = .ok (.iconst 0, 1) := by decide +kernel
theorem dX6_mayBegin_76 : decode cX6_mayBegin 76 = .ok (.ireturn, 1) := by decide +kernel
theorem dX6_mayBegin_77 : decode cX6_mayBegin 77 = .ok (.aload_n 0, 1) := by decide +kernel
theorem dX6_mayBegin_78 : decode cX6_mayBegin 78 = .ok (.getfield 106, 3) := by decide +kernel
theorem dX6_mayBegin_81 : decode cX6_mayBegin 81 = .ok (.ifCond .ge 7, 3) := by decide +kernel
theorem dX6_mayBegin_84 : decode cX6_mayBegin 84 = .ok (.iconst 1, 1) := by decide +kernel
theorem dX6_mayBegin_85 : decode cX6_mayBegin 85 = .ok (.goto 4, 3) := by decide +kernel
theorem dX6_mayBegin_88 : decode cX6_mayBegin 88 = .ok (.iconst 0, 1) := by decide +kernel
theorem dX6_mayBegin_89 : decode cX6_mayBegin 89 = .ok (.ireturn, 1) := by decide +kernel
theorem dX6_readBody_0 : decode cX6_readBody 0 = .ok (.iload_n 1, 1) := by decide +kernel
theorem dX6_readBody_1 : decode cX6_readBody 1 = .ok (.tableswitch 153 100 104 #[35, 153, 153, 139, 125], 35) := by decide +kernel
theorem dX6_readBody_36 : decode cX6_readBody 36 = .ok (.aload_n 0, 1) := by decide +kernel
theorem dX6_readBody_37 : decode cX6_readBody 37 = .ok (.getfield 48, 3) := by decide +kernel
theorem dX6_readBody_40 : decode cX6_readBody 40 = .ok (.iconst 4, 1) := by decide +kernel
theorem dX6_readBody_41 : decode cX6_readBody 41 = .ok (.aload_n 0, 1) := by decide +kernel
theorem dX6_readBody_42 : decode cX6_readBody 42 = .ok (.getfield 97, 3) := by decide +kernel
theorem dX6_readBody_45 : decode cX6_readBody 45 = .ok (.imul, 1) := by decide +kernel
theorem dX6_readBody_46 : decode cX6_readBody 46 = .ok (.aload_n 0, 1) := by decide +kernel
theorem dX6_readBody_47 : decode cX6_readBody 47 = .ok (.iconst 0, 1) := by decide +kernel
theorem dX6_readBody_48 : decode cX6_readBody 48 = .ok (.bipush 40, 2) := by decide +kernel
theorem dX6_readBody_50 : decode cX6_readBody 50 = .ok (.invokevirtual 109, 3) := by decide +kernel
theorem dX6_readBody_53 : decode cX6_readBody 53 = .ok (.iastore, 1) := by decide +kernel
theorem dX6_readBody_54 : decode cX6_readBody 54 = .ok (.aload_n 0, 1) := by decide +kernel
theorem dX6_readBody_55 : decode cX6_readBody 55 = .ok (.getfield 48, 3) := by decide +kernel
theorem dX6_readBody_58 : decode cX6_readBody 58 = .ok (.iconst 4, 1) := by decide +kernel
theorem dX6_readBody_59 : decode cX6_readBody 59 = .ok (.aload_n 0, 1) := by decide +kernel
theorem dX6_readBody_60 : decode cX6_readBody 60 = .ok (.getfield 97, 3) := by decide +kernel
theorem dX6_readBody_63 : decode cX6_readBody 63 = .ok (.imul, 1) := by decide +kernel
theorem dX6_readBody_64 : decode cX6_readBody 64 = .ok (.iconst 1, 1) := by decide +kernel
theorem dX6_readBody_65 : decode cX6_readBody 65 = .ok (.iadd, 1) := by decide +kernel
theorem dX6_readBody_66 : decode cX6_readBody 66 = .ok (.aload_n 0, 1) := by decide +kernel
theorem dX6_readBody_67 : decode cX6_readBody 67 = .ok (.iconst 1, 1) := by decide +kernel
theorem dX6_readBody_68 : decode cX6_readBody 68 = .ok (.bipush 9, 2) := by decide +kernel
theorem dX6_readBody_70 : decode cX6_readBody 70 = .ok (.invokevirtual 109, 3) := by decide +kernel
theorem dX6_readBody_73 : decode cX6_readBody 73 = .ok (.iastore, 1) := by decide +kernel
theorem dX6_readBody_74 : decode cX6_readBody 74 = .ok (.aload_n 0, 1) := by decide +kernel
theorem dX6_readBody_75 : decode cX6_readBody 75 = .ok (.getfield 48, 3) := by decide +kernel
theorem dX6_readBody_78 : decode cX6_readBody 78 = .ok (.iconst 4, 1) := by decide +kernel
theorem dX6_readBody_79 : decode cX6_readBody 79 = .ok (.aload_n 0, 1) := by decide +kernel
theorem dX6_readBody_80 : decode cX6_readBody 80 = .ok (.getfield 97, 3) := by decide +kernel
theorem dX6_readBody_83 : decode cX6_readBody 83 = .ok (.imul, 1) := by decide +kernel
theorem dX6_readBody_84 : decode cX6_readBody 84 = .ok (.iconst 2, 1) := by decide +kernel
theorem dX6_readBody_85 : decode cX6_readBody 85 = .ok (.iadd, 1) := by decide +kernel
theorem dX6_readBody_86 : decode cX6_readBody 86 = .ok (.aload_n 0, 1) := by decide +kernel
theorem dX6_readBody_87 : decode cX6_readBody 87 = .ok (.iconst 0, 1) := by decide +kernel
theorem dX6_readBody_88 : decode cX6_readBody 88 = .ok (.iconst 3, 1) := by decide +kernel
theorem dX6_readBody_89 : decode cX6_readBody 89 = .ok (.invokevirtual 109, 3) := by decide +kernel
theorem dX6_readBody_92 : decode cX6_readBody 92 = .ok (.iastore, 1) := by decide +kernel
theorem dX6_readBody_93 : decode cX6_readBody 93 = .ok (.aload_n 0, 1) := by decide +kernel
theorem dX6_readBody_94 : decode cX6_readBody 94 = .ok (.getfield 48, 3) := by decide +kernel
theorem dX6_readBody_97 : decode cX6_readBody 97 = .ok (.iconst 4, 1) := by decide +kernel
theorem dX6_readBody_98 : decode cX6_readBody 98 = .ok (.aload_n 0, 1) := by decide +kernel
theorem dX6_readBody_99 : decode cX6_readBody 99 = .ok (.getfield 97, 3) := by decide +kernel
theorem dX6_readBody_102 : decode cX6_readBody 102 = .ok (.imul, 1) := by decide +kernel
theorem dX6_readBody_103 : decode cX6_readBody 103 = .ok (.iconst 3, 1) := by decide +kernel
theorem dX6_readBody_104 : decode cX6_readBody 104 = .ok (.iadd, 1) := by decide +kernel
theorem dX6_readBody_105 : decode cX6_readBody 105 = .ok (.aload_n 0, 1) := by decide +kernel
theorem dX6_readBody_106 : decode cX6_readBody 106 = .ok (.iconst 0, 1) := by decide +kernel
theorem dX6_readBody_107 : decode cX6_readBody 107 = .ok (.bipush 9, 2) := by decide +kernel
theorem dX6_readBody_109 : decode cX6_readBody 109 = .ok (.invokevirtual 109, 3) := by decide +kernel
theorem dX6_readBody_112 : decode cX6_readBody 112 = .ok (.iastore, 1) := by decide +kernel
theorem dX6_readBody_113 : decode cX6_readBody 113 = .ok (.aload_n 0, 1) := by decide +kernel
theorem dX6_readBody_114 : decode cX6_readBody 114 = .ok (.dup, 1) := by decide +kernel
theorem dX6_readBody_115 : decode cX6_readBody 115 = .ok (.getfield 97, 3) := by decide +kernel
theorem dX6_readBody_118 : decode cX6_readBody 118 = .ok (.iconst 1, 1) := by decide +kernel
theorem dX6_readBody_119 : decode cX6_readBody 119 = .ok (.iadd, 1) := by decide +kernel
theorem dX6_readBody_120 : decode cX6_readBody 120 = .ok (.putfield 97, 3) := by decide +kernel
theorem dX6_readBody_123 : decode cX6_readBody 123 = .ok (.goto 43, 3) := by decide +kernel
theorem dX6_readBody_126 : decode cX6_readBody 126 = .ok (.aload_n 0, 1) := by decide +kernel
theorem dX6_readBody_127 : decode cX6_readBody 127 = .ok (.aload_n 0, 1) := by decide +kernel
theorem dX6_readBody_128 : decode cX6_readBody 128 = .ok (.iconst 0, 1) := by decide +kernel
theorem dX6_readBody_129 : decode cX6_readBody 129 = .ok (.bipush 9, 2) := by decide +kernel
theorem dX6_readBody_131 : decode cX6_readBody 131 = .ok (.invokevirtual 109, 3) := by decide +kernel
theorem dX6_readBody_134 : decode cX6_readBody 134 = .ok (.putfield 100, 3) := by decide +kernel
theorem dX6_readBody_137 : decode cX6_readBody 137 = .ok (.goto 29, 3) := by decide +kernel
theorem dX6_readBody_140 : decode cX6_readBody 140 = .ok (.aload_n 0, 1) := by decide +kernel
theorem dX6_readBody_141 : decode cX6_readBody 141 = .ok (.aload_n 0, 1) := by decide +kernel
theorem dX6_readBody_142 : decode cX6_readBody 142 = .ok (.iconst 0, 1) := by decide +kernel
theorem dX6_readBody_143 : decode cX6_readBody 143 = .ok (.bipush 9, 2) := by decide +kernel
theorem dX6_readBody_145 : decode cX6_readBody 145 = .ok (.invokevirtual 109, 3) := by decide +kernel
theorem dX6_readBody_148 : decode cX6_readBody 148 = .ok (.putfield 103, 3) := by decide +kernel
theorem dX6_readBody_151 : decode cX6_readBody 151 = .ok (.goto 15, 3) := by decide +kernel
theorem dX6_readBody_154 : decode cX6_readBody 154 = .ok (.aload_n 0, 1) := by decide +kernel
theorem dX6_readBody_155 : decode cX6_readBody 155 = .ok (.aload_n 0, 1) := by decide +kernel
theorem dX6_readBody_156 : decode cX6_readBody 156 = .ok (.bipush 9, 2) := by decide +kernel
theorem dX6_readBody_158 : decode cX6_readBody 158 = .ok (.bipush 40, 2) := by decide +kernel
theorem dX6_readBody_160 : decode cX6_readBody 160 = .ok (.invokevirtual 109, 3) := by decide +kernel
theorem dX6_readBody_163 : decode cX6_readBody 163 = .ok (.putfield 106, 3) := by decide +kernel
theorem dX6_readBody_166 : decode cX6_readBody 166 = .ok (.return_, 1) := by decide +kernel
theorem dX6_readItem_0 : decode cX6_readItem 0 = .ok (.aload_n 0, 1) := by decide +kernel
theorem dX6_readItem_1 : decode cX6_readItem 1 = .ok (.getfield 80, 3) := by decide +kernel
theorem dX6_readItem_4 : decode cX6_readItem 4 = .ok (.istore_n 1, 1) := by decide +kernel
theorem dX6_readItem_5 : decode cX6_readItem 5 = .ok (.aload_n 0, 1) := by decide +kernel
theorem dX6_readItem_6 : decode cX6_readItem 6 = .ok (.getfield 83, 3) := by decide +kernel
theorem dX6_readItem_9 : decode cX6_readItem 9 = .ok (.iconst 1, 1) := by decide +kernel
theorem dX6_readItem_10 : decode cX6_readItem 10 = .ok (.if_icmp .ne 11, 3) := by decide +kernel
theorem dX6_readItem_13 : decode cX6_readItem 13 = .ok (.aload_n 0, 1) := by decide +kernel
theorem dX6_readItem_14 : decode cX6_readItem 14 = .ok (.iload_n 1, 1) := by decide +kernel
theorem dX6_readItem_15 : decode cX6_readItem 15 = .ok (.invokevirtual 113, 3) := by decide +kernel
theorem dX6_readItem_18 : decode cX6_readItem 18 = .ok (.ifCond .ne 9, 3) := by decide +kernel
theorem dX6_readItem_21 : decode cX6_readItem 21 = .ok (.aload_n 0, 1) := by decide +kernel
theorem dX6_readItem_22 : decode cX6_readItem 22 = .ok (.iconst 1, 1) := by decide +kernel
theorem dX6_readItem_23 : decode cX6_readItem 23 = .ok (.putfield 90, 3) := by decide +kernel
theorem dX6_readItem_26 : decode cX6_readItem 26 = .ok (.return_, 1) := by decide +kernel
theorem dX6_readItem_27 : decode cX6_readItem 27 = .ok (.aload_n 0, 1) := by decide +kernel
theorem dX6_readItem_28 : decode cX6_readItem 28 = .ok (.invokevirtual 94, 3) := by decide +kernel
theorem dX6_readItem_31 : decode cX6_readItem 31 = .ok (.aload_n 0, 1) := by decide +kernel
theorem dX6_readItem_32 : decode cX6_readItem 32 = .ok (.iload_n 1, 1) := by decide +kernel
theorem dX6_readItem_33 : decode cX6_readItem 33 = .ok (.invokevirtual 116, 3) := by decide +kernel
theorem dX6_readItem_36 : decode cX6_readItem 36 = .ok (.aload_n 0, 1) := by decide +kernel
theorem dX6_readItem_37 : decode cX6_readItem 37 = .ok (.aload_n 0, 1) := by decide +kernel
theorem dX6_readItem_38 : decode cX6_readItem 38 = .ok (.getfield 90, 3) := by decide +kernel
theorem dX6_readItem_41 : decode cX6_readItem 41 = .ok (.ifCond .ne 11, 3) := by decide +kernel
theorem dX6_readItem_44 : decode cX6_readItem 44 = .ok (.aload_n 0, 1) := by decide +kernel
theorem dX6_readItem_45 : decode cX6_readItem 45 = .ok (.getfield 83, 3) := by decide +kernel
theorem dX6_readItem_48 : decode cX6_readItem 48 = .ok (.iconst 3, 1) := by decide +kernel
theorem dX6_readItem_49 : decode cX6_readItem 49 = .ok (.if_icmp .eq 7, 3) := by decide +kernel
theorem dX6_readItem_52 : decode cX6_readItem 52 = .ok (.iconst 1, 1) := by decide +kernel
theorem dX6_readItem_53 : decode cX6_readItem 53 = .ok (.goto 4, 3) := by decide +kernel
theorem dX6_readItem_56 : decode cX6_readItem 56 = .ok (.iconst 0, 1) := by decide +kernel
theorem dX6_readItem_57 : decode cX6_readItem 57 = .ok (.putfield 90, 3) := by decide +kernel
theorem dX6_readItem_60 : decode cX6_readItem 60 = .ok (.aload_n 0, 1) := by decide +kernel
theorem dX6_readItem_61 : decode cX6_readItem 61 = .ok (.getfield 90, 3) := by decide +kernel
theorem dX6_readItem_64 : decode cX6_readItem 64 = .ok (.ifCond .ne 7, 3) := by decide +kernel
theorem dX6_readItem_67 : decode cX6_readItem 67 = .ok (.aload_n 0, 1) := by decide +kernel
theorem dX6_readItem_68 : decode cX6_readItem 68 = .ok (.invokevirtual 94, 3) := by decide +kernel
theorem dX6_readItem_71 : decode cX6_readItem 71 = .ok (.return_, 1) := by decide +kernel
theorem dX6_pot_0 : decode cX6_pot 0 = .ok (.aload_n 0, 1) := by decide +kernel
theorem dX6_pot_1 : decode cX6_pot 1 = .ok (.iconst 0, 1) := by decide +kernel
theorem dX6_pot_2 : decode cX6_pot 2 = .ok (.putfield 70, 3) := by decide +kernel
theorem dX6_pot_5 : decode cX6_pot 5 = .ok (.aload_n 0, 1) := by decide +kernel
theorem dX6_pot_6 : decode cX6_pot 6 = .ok (.iconst 0, 1) := by decide +kernel
theorem dX6_pot_7 : decode cX6_pot 7 = .ok (.putfield 90, 3) := by decide +kernel
theorem dX6_pot_10 : decode cX6_pot 10 = .ok (.aload_n 0, 1) := by decide +kernel
theorem dX6_pot_11 : decode cX6_pot 11 = .ok (.iconst 0, 1) := by decide +kernel
theorem dX6_pot_12 : decode cX6_pot 12 = .ok (.putfield 120, 3) := by decide +kernel
theorem dX6_pot_15 : decode cX6_pot 15 = .ok (.aload_n 0, 1) := by decide +kernel
theorem dX6_pot_16 : decode cX6_pot 16 = .ok (.iconst 0, 1) := by decide +kernel
theorem dX6_pot_17 : decode cX6_pot 17 = .ok (.putfield 97, 3) := by decide +kernel
theorem dX6_pot_20 : decode cX6_pot 20 = .ok (.aload_n 0, 1) := by decide +kernel
theorem dX6_pot_21 : decode cX6_pot 21 = .ok (.iconst (-1), 1) := by decide +kernel
theorem dX6_pot_22 : decode cX6_pot 22 = .ok (.putfield 100, 3) := by decide +kernel
theorem dX6_pot_25 : decode cX6_pot 25 = .ok (.aload_n 0, 1) := by decide +kernel
theorem dX6_pot_26 : decode cX6_pot 26 = .ok (.iconst (-1), 1) := by decide +kernel
theorem dX6_pot_27 : decode cX6_pot 27 = .ok (.putfield 103, 3) := by decide +kernel
theorem dX6_pot_30 : decode cX6_pot 30 = .ok (.aload_n 0, 1) := by decide +kernel
theorem dX6_pot_31 : decode cX6_pot 31 = .ok (.iconst (-1), 1) := by decide +kernel
theorem dX6_pot_32 : decode cX6_pot 32 = .ok (.putfield 106, 3) := by decide +kernel
theorem dX6_pot_35 : decode cX6_pot 35 = .ok (.aload_n 0, 1) := by decide +kernel
theorem dX6_pot_36 : decode cX6_pot 36 = .ok (.invokevirtual 94, 3) := by decide +kernel
theorem dX6_pot_39 : decode cX6_pot 39 = .ok (.aload_n 0, 1) := by decide +kernel
theorem dX6_pot_40 : decode cX6_pot 40 = .ok (.getfield 83, 3) := by decide +kernel
theorem dX6_pot_43 : decode cX6_pot 43 = .ok (.ifCond .eq 27, 3) := by decide +kernel
theorem dX6_pot_46 : decode cX6_pot 46 = .ok (.aload_n 0, 1) := by decide +kernel
theorem dX6_pot_47 : decode cX6_pot 47 = .ok (.getfield 90, 3) := by decide +kernel
theorem dX6_pot_50 : decode cX6_pot 50 = .ok (.ifCond .ne 20, 3) := by decide +kernel
theorem dX6_pot_53 : decode cX6_pot 53 = .ok (.aload_n 0, 1) := by decide +kernel
theorem dX6_pot_54 : decode cX6_pot 54 = .ok (.invokevirtual 123, 3) := by decide +kernel
theorem dX6_pot_57 : decode cX6_pot 57 = .ok (.aload_n 0, 1) := by decide +kernel
theorem dX6_pot_58 : decode cX6_pot 58 = .ok (.dup, 1) := by decide +kernel
theorem dX6_pot_59 : decode cX6_pot 59 = .ok (.getfield 120, 3) := by decide +kernel
theorem dX6_pot_62 : decode cX6_pot 62 = .ok (.iconst 1, 1) := by decide +kernel
theorem dX6_pot_63 : decode cX6_pot 63 = .ok (.iadd, 1) := by decide +kernel
theorem dX6_pot_64 : decode cX6_pot 64 = .ok (.putfield 120, 3) := by decide +kernel
theorem dX6_pot_67 : decode cX6_pot 67 = .ok (.goto (-28), 3) := by decide +kernel
theorem dX6_pot_70 : decode cX6_pot 70 = .ok (.aload_n 0, 1) := by decide +kernel
theorem dX6_pot_71 : decode cX6_pot 71 = .ok (.getfield 90, 3) := by decide +kernel
theorem dX6_pot_74 : decode cX6_pot 74 = .ok (.ifCond .eq 11, 3) := by decide +kernel
theorem dX6_pot_77 : decode cX6_pot 77 = .ok (.bipush (-10), 2) := by decide +kernel
theorem dX6_pot_79 : decode cX6_pot 79 = .ok (.aload_n 0, 1) := by decide +kernel
theorem dX6_pot_80 : decode cX6_pot 80 = .ok (.getfield 77, 3) := by decide +kernel
theorem dX6_pot_83 : decode cX6_pot 83 = .ok (.isub, 1) := by decide +kernel
theorem dX6_pot_84 : decode cX6_pot 84 = .ok (.ireturn, 1) := by decide +kernel
theorem dX6_pot_85 : decode cX6_pot 85 = .ok (.aload_n 0, 1) := by decide +kernel
theorem dX6_pot_86 : decode cX6_pot 86 = .ok (.invokevirtual 126, 3) := by decide +kernel
theorem dX6_pot_89 : decode cX6_pot 89 = .ok (.aload_n 0, 1) := by decide +kernel
theorem dX6_pot_90 : decode cX6_pot 90 = .ok (.getfield 120, 3) := by decide +kernel
theorem dX6_pot_93 : decode cX6_pot 93 = .ok (.ireturn, 1) := by decide +kernel
theorem dX6_settles_0 : decode cX6_settles 0 = .ok (.aload_n 0, 1) := by decide +kernel
theorem dX6_settles_1 : decode cX6_settles 1 = .ok (.aload_n 0, 1) := by decide +kernel
theorem dX6_settles_2 : decode cX6_settles 2 = .ok (.getfield 97, 3) := by decide +kernel
theorem dX6_settles_5 : decode cX6_settles 5 = .ok (.putfield 60, 3) := by decide +kernel
theorem dX6_settles_8 : decode cX6_settles 8 = .ok (.aload_n 0, 1) := by decide +kernel
theorem dX6_settles_9 : decode cX6_settles 9 = .ok (.aload_n 0, 1) := by decide +kernel
theorem dX6_settles_10 : decode cX6_settles 10 = .ok (.getfield 100, 3) := by decide +kernel
theorem dX6_settles_13 : decode cX6_settles 13 = .ok (.ifCond .ge 7, 3) := by decide +kernel
theorem dX6_settles_16 : decode cX6_settles 16 = .ok (.iconst 3, 1) := by decide +kernel
theorem dX6_settles_17 : decode cX6_settles 17 = .ok (.goto 7, 3) := by decide +kernel
theorem dX6_settles_20 : decode cX6_settles 20 = .ok (.aload_n 0, 1) := by decide +kernel
theorem dX6_settles_21 : decode cX6_settles 21 = .ok (.getfield 100, 3) := by decide +kernel
theorem dX6_settles_24 : decode cX6_settles 24 = .ok (.putfield 19, 3) := by decide +kernel
theorem dX6_settles_27 : decode cX6_settles 27 = .ok (.aload_n 0, 1) := by decide +kernel
theorem dX6_settles_28 : decode cX6_settles 28 = .ok (.aload_n 0, 1) := by decide +kernel
theorem dX6_settles_29 : decode cX6_settles 29 = .ok (.getfield 103, 3) := by decide +kernel
theorem dX6_settles_32 : decode cX6_settles 32 = .ok (.ifCond .ge 7, 3) := by decide +kernel
theorem dX6_settles_35 : decode cX6_settles 35 = .ok (.iconst 1, 1) := by decide +kernel
theorem dX6_settles_36 : decode cX6_settles 36 = .ok (.goto 7, 3) := by decide +kernel
theorem dX6_settles_39 : decode cX6_settles 39 = .ok (.aload_n 0, 1) := by decide +kernel
theorem dX6_settles_40 : decode cX6_settles 40 = .ok (.getfield 103, 3) := by decide +kernel
theorem dX6_settles_43 : decode cX6_settles 43 = .ok (.putfield 23, 3) := by decide +kernel
theorem dX6_settles_46 : decode cX6_settles 46 = .ok (.aload_n 0, 1) := by decide +kernel
theorem dX6_settles_47 : decode cX6_settles 47 = .ok (.aload_n 0, 1) := by decide +kernel
theorem dX6_settles_48 : decode cX6_settles 48 = .ok (.getfield 106, 3) := by decide +kernel
theorem dX6_settles_51 : decode cX6_settles 51 = .ok (.ifCond .ge 8, 3) := by decide +kernel
theorem dX6_settles_54 : decode cX6_settles 54 = .ok (.bipush 20, 2) := by decide +kernel
theorem dX6_settles_56 : decode cX6_settles 56 = .ok (.goto 7, 3) := by decide +kernel
theorem dX6_settles_59 : decode cX6_settles 59 = .ok (.aload_n 0, 1) := by decide +kernel
theorem dX6_settles_60 : decode cX6_settles 60 = .ok (.getfield 106, 3) := by decide +kernel
theorem dX6_settles_63 : decode cX6_settles 63 = .ok (.putfield 26, 3) := by decide +kernel
theorem dX6_settles_66 : decode cX6_settles 66 = .ok (.aload_n 0, 1) := by decide +kernel
theorem dX6_settles_67 : decode cX6_settles 67 = .ok (.getfield 29, 3) := by decide +kernel
theorem dX6_settles_70 : decode cX6_settles 70 = .ok (.iconst 0, 1) := by decide +kernel
theorem dX6_settles_71 : decode cX6_settles 71 = .ok (.iconst 0, 1) := by decide +kernel
theorem dX6_settles_72 : decode cX6_settles 72 = .ok (.iastore, 1) := by decide +kernel
theorem dX6_settles_73 : decode cX6_settles 73 = .ok (.aload_n 0, 1) := by decide +kernel
theorem dX6_settles_74 : decode cX6_settles 74 = .ok (.getfield 29, 3) := by decide +kernel
theorem dX6_settles_77 : decode cX6_settles 77 = .ok (.iconst 1, 1) := by decide +kernel
theorem dX6_settles_78 : decode cX6_settles 78 = .ok (.aload_n 0, 1) := by decide +kernel
theorem dX6_settles_79 : decode cX6_settles 79 = .ok (.getfield 19, 3) := by decide +kernel
theorem dX6_settles_82 : decode cX6_settles 82 = .ok (.iastore, 1) := by decide +kernel
theorem dX6_settles_83 : decode cX6_settles 83 = .ok (.iconst 0, 1) := by decide +kernel
theorem dX6_settles_84 : decode cX6_settles 84 = .ok (.istore_n 1, 1) := by decide +kernel
theorem dX6_settles_85 : decode cX6_settles 85 = .ok (.iload_n 1, 1) := by decide +kernel
theorem dX6_settles_86 : decode cX6_settles 86 = .ok (.bipush 6, 2) := by decide +kernel
theorem dX6_settles_88 : decode cX6_settles 88 = .ok (.if_icmp .ge 107, 3) := by decide +kernel
theorem dX6_settles_91 : decode cX6_settles 91 = .ok (.aload_n 0, 1) := by decide +kernel
theorem dX6_settles_92 : decode cX6_settles 92 = .ok (.getfield 7, 3) := by decide +kernel
theorem dX6_settles_95 : decode cX6_settles 95 = .ok (.iload_n 1, 1) := by decide +kernel
theorem dX6_settles_96 : decode cX6_settles 96 = .ok (.aload_n 0, 1) := by decide +kernel
theorem dX6_settles_97 : decode cX6_settles 97 = .ok (.getfield 48, 3) := by decide +kernel
theorem dX6_settles_100 : decode cX6_settles 100 = .ok (.iconst 4, 1) := by decide +kernel
theorem dX6_settles_101 : decode cX6_settles 101 = .ok (.iload_n 1, 1) := by decide +kernel
theorem dX6_settles_102 : decode cX6_settles 102 = .ok (.imul, 1) := by decide +kernel
theorem dX6_settles_103 : decode cX6_settles 103 = .ok (.iaload, 1) := by decide +kernel
theorem dX6_settles_104 : decode cX6_settles 104 = .ok (.iastore, 1) := by decide +kernel
theorem dX6_settles_105 : decode cX6_settles 105 = .ok (.aload_n 0, 1) := by decide +kernel
theorem dX6_settles_106 : decode cX6_settles 106 = .ok (.getfield 13, 3) := by decide +kernel
theorem dX6_settles_109 : decode cX6_settles 109 = .ok (.iload_n 1, 1) := by decide +kernel
theorem dX6_settles_110 : decode cX6_settles 110 = .ok (.aload_n 0, 1) := by decide +kernel
theorem dX6_settles_111 : decode cX6_settles 111 = .ok (.getfield 48, 3) := by decide +kernel
theorem dX6_settles_114 : decode cX6_settles 114 = .ok (.iconst 4, 1) := by decide +kernel
theorem dX6_settles_115 : decode cX6_settles 115 = .ok (.iload_n 1, 1) := by decide +kernel
theorem dX6_settles_116 : decode cX6_settles 116 = .ok (.imul, 1) := by decide +kernel
theorem dX6_settles_117 : decode cX6_settles 117 = .ok (.iconst 2, 1) := by decide +kernel
theorem dX6_settles_118 : decode cX6_settles 118 = .ok (.iadd, 1) := by decide +kernel
theorem dX6_settles_119 : decode cX6_settles 119 = .ok (.iaload, 1) := by decide +kernel
theorem dX6_settles_120 : decode cX6_settles 120 = .ok (.iastore, 1) := by decide +kernel
theorem dX6_settles_121 : decode cX6_settles 121 = .ok (.aload_n 0, 1) := by decide +kernel
theorem dX6_settles_122 : decode cX6_settles 122 = .ok (.getfield 16, 3) := by decide +kernel
theorem dX6_settles_125 : decode cX6_settles 125 = .ok (.iload_n 1, 1) := by decide +kernel
theorem dX6_settles_126 : decode cX6_settles 126 = .ok (.aload_n 0, 1) := by decide +kernel
theorem dX6_settles_127 : decode cX6_settles 127 = .ok (.getfield 48, 3) := by decide +kernel
theorem dX6_settles_130 : decode cX6_settles 130 = .ok (.iconst 4, 1) := by decide +kernel
theorem dX6_settles_131 : decode cX6_settles 131 = .ok (.iload_n 1, 1) := by decide +kernel
theorem dX6_settles_132 : decode cX6_settles 132 = .ok (.imul, 1) := by decide +kernel
theorem dX6_settles_133 : decode cX6_settles 133 = .ok (.iconst 3, 1) := by decide +kernel
theorem dX6_settles_134 : decode cX6_settles 134 = .ok (.iadd, 1) := by decide +kernel
theorem dX6_settles_135 : decode cX6_settles 135 = .ok (.iaload, 1) := by decide +kernel
theorem dX6_settles_136 : decode cX6_settles 136 = .ok (.iastore, 1) := by decide +kernel
theorem dX6_settles_137 : decode cX6_settles 137 = .ok (.aload_n 0, 1) := by decide +kernel
theorem dX6_settles_138 : decode cX6_settles 138 = .ok (.getfield 29, 3) := by decide +kernel
theorem dX6_settles_141 : decode cX6_settles 141 = .ok (.iconst 2, 1) := by decide +kernel
theorem dX6_settles_142 : decode cX6_settles 142 = .ok (.iload_n 1, 1) := by decide +kernel
theorem dX6_settles_143 : decode cX6_settles 143 = .ok (.iadd, 1) := by decide +kernel
theorem dX6_settles_144 : decode cX6_settles 144 = .ok (.bipush (-9), 2) := by decide +kernel
theorem dX6_settles_146 : decode cX6_settles 146 = .ok (.iastore, 1) := by decide +kernel
theorem dX6_settles_147 : decode cX6_settles 147 = .ok (.aload_n 0, 1) := by decide +kernel
theorem dX6_settles_148 : decode cX6_settles 148 = .ok (.getfield 29, 3) := by decide +kernel
theorem dX6_settles_151 : decode cX6_settles 151 = .ok (.bipush 8, 2) := by decide +kernel
theorem dX6_settles_153 : decode cX6_settles 153 = .ok (.iload_n 1, 1) := by decide +kernel
theorem dX6_settles_154 : decode cX6_settles 154 = .ok (.iadd, 1) := by decide +kernel
theorem dX6_settles_155 : decode cX6_settles 155 = .ok (.aload_n 0, 1) := by decide +kernel
theorem dX6_settles_156 : decode cX6_settles 156 = .ok (.getfield 48, 3) := by decide +kernel
theorem dX6_settles_159 : decode cX6_settles 159 = .ok (.iconst 4, 1) := by decide +kernel
theorem dX6_settles_160 : decode cX6_settles 160 = .ok (.iload_n 1, 1) := by decide +kernel
theorem dX6_settles_161 : decode cX6_settles 161 = .ok (.imul, 1) := by decide +kernel
theorem dX6_settles_162 : decode cX6_settles 162 = .ok (.iconst 1, 1) := by decide +kernel
theorem dX6_settles_163 : decode cX6_settles 163 = .ok (.iadd, 1) := by decide +kernel
theorem dX6_settles_164 : decode cX6_settles 164 = .ok (.iaload, 1) := by decide +kernel
theorem dX6_settles_165 : decode cX6_settles 165 = .ok (.iastore, 1) := by decide +kernel
theorem dX6_settles_166 : decode cX6_settles 166 = .ok (.aload_n 0, 1) := by decide +kernel
theorem dX6_settles_167 : decode cX6_settles 167 = .ok (.getfield 29, 3) := by decide +kernel
theorem dX6_settles_170 : decode cX6_settles 170 = .ok (.bipush 14, 2) := by decide +kernel
theorem dX6_settles_172 : decode cX6_settles 172 = .ok (.iload_n 1, 1) := by decide +kernel
theorem dX6_settles_173 : decode cX6_settles 173 = .ok (.iadd, 1) := by decide +kernel
theorem dX6_settles_174 : decode cX6_settles 174 = .ok (.iconst 1, 1) := by decide +kernel
theorem dX6_settles_175 : decode cX6_settles 175 = .ok (.iload_n 1, 1) := by decide +kernel
theorem dX6_settles_176 : decode cX6_settles 176 = .ok (.ishl, 1) := by decide +kernel
theorem dX6_settles_177 : decode cX6_settles 177 = .ok (.iastore, 1) := by decide +kernel
theorem dX6_settles_178 : decode cX6_settles 178 = .ok (.aload_n 0, 1) := by decide +kernel
theorem dX6_settles_179 : decode cX6_settles 179 = .ok (.getfield 29, 3) := by decide +kernel
theorem dX6_settles_182 : decode cX6_settles 182 = .ok (.bipush 20, 2) := by decide +kernel
theorem dX6_settles_184 : decode cX6_settles 184 = .ok (.iload_n 1, 1) := by decide +kernel
theorem dX6_settles_185 : decode cX6_settles 185 = .ok (.iadd, 1) := by decide +kernel
theorem dX6_settles_186 : decode cX6_settles 186 = .ok (.bipush (-9), 2) := by decide +kernel
theorem dX6_settles_188 : decode cX6_settles 188 = .ok (.iastore, 1) := by decide +kernel
theorem dX6_settles_189 : decode cX6_settles 189 = .ok (.iinc 1 1, 3) := by decide +kernel
theorem dX6_settles_192 : decode cX6_settles 192 = .ok (.goto (-107), 3) := by decide +kernel
theorem dX6_settles_195 : decode cX6_settles 195 = .ok (.aload_n 0, 1) := by decide +kernel
theorem dX6_settles_196 : decode cX6_settles 196 = .ok (.iconst 0, 1) := by decide +kernel
theorem dX6_settles_197 : decode cX6_settles 197 = .ok (.putfield 129, 3) := by decide +kernel
theorem dX6_settles_200 : decode cX6_settles 200 = .ok (.aload_n 0, 1) := by decide +kernel
theorem dX6_settles_201 : decode cX6_settles 201 = .ok (.iconst 0, 1) := by decide +kernel
theorem dX6_settles_202 : decode cX6_settles 202 = .ok (.putfield 132, 3) := by decide +kernel
theorem dX6_settles_205 : decode cX6_settles 205 = .ok (.aload_n 0, 1) := by decide +kernel
theorem dX6_settles_206 : decode cX6_settles 206 = .ok (.getfield 38, 3) := by decide +kernel
theorem dX6_settles_209 : decode cX6_settles 209 = .ok (.iconst 0, 1) := by decide +kernel
theorem dX6_settles_210 : decode cX6_settles 210 = .ok (.iconst 0, 1) := by decide +kernel
theorem dX6_settles_211 : decode cX6_settles 211 = .ok (.bastore, 1) := by decide +kernel
theorem dX6_settles_212 : decode cX6_settles 212 = .ok (.aload_n 0, 1) := by decide +kernel
theorem dX6_settles_213 : decode cX6_settles 213 = .ok (.getfield 38, 3) := by decide +kernel
theorem dX6_settles_216 : decode cX6_settles 216 = .ok (.iconst 1, 1) := by decide +kernel
theorem dX6_settles_217 : decode cX6_settles 217 = .ok (.iconst 0, 1) := by decide +kernel
theorem dX6_settles_218 : decode cX6_settles 218 = .ok (.bastore, 1) := by decide +kernel
theorem dX6_settles_219 : decode cX6_settles 219 = .ok (.aload_n 0, 1) := by decide +kernel
theorem dX6_settles_220 : decode cX6_settles 220 = .ok (.iconst 0, 1) := by decide +kernel
theorem dX6_settles_221 : decode cX6_settles 221 = .ok (.putfield 67, 3) := by decide +kernel
theorem dX6_settles_224 : decode cX6_settles 224 = .ok (.return_, 1) := by decide +kernel
theorem dX6_asItIs_0 : decode cX6_asItIs 0 = .ok (.aload_n 0, 1) := by decide +kernel
theorem dX6_asItIs_1 : decode cX6_asItIs 1 = .ok (.getfield 51, 3) := by decide +kernel
theorem dX6_asItIs_4 : decode cX6_asItIs 4 = .ok (.iconst 0, 1) := by decide +kernel
theorem dX6_asItIs_5 : decode cX6_asItIs 5 = .ok (.aload_n 0, 1) := by decide +kernel
theorem dX6_asItIs_6 : decode cX6_asItIs 6 = .ok (.getfield 29, 3) := by decide +kernel
theorem dX6_asItIs_9 : decode cX6_asItIs 9 = .ok (.iconst 0, 1) := by decide +kernel
theorem dX6_asItIs_10 : decode cX6_asItIs 10 = .ok (.invokestatic 135, 3) := by decide +kernel
theorem dX6_asItIs_13 : decode cX6_asItIs 13 = .ok (.return_, 1) := by decide +kernel
theorem dX6_swell_0 : decode cX6_swell 0 = .ok (.iconst 0, 1) := by decide +kernel
theorem dX6_swell_1 : decode cX6_swell 1 = .ok (.istore_n 1, 1) := by decide +kernel
theorem dX6_swell_2 : decode cX6_swell 2 = .ok (.iload_n 1, 1) := by decide +kernel
theorem dX6_swell_3 : decode cX6_swell 3 = .ok (.aload_n 0, 1) := by decide +kernel
theorem dX6_swell_4 : decode cX6_swell 4 = .ok (.getfield 60, 3) := by decide +kernel
theorem dX6_swell_7 : decode cX6_swell 7 = .ok (.if_icmp .ge 72, 3) := by decide +kernel
theorem dX6_swell_10 : decode cX6_swell 10 = .ok (.aload_n 0, 1) := by decide +kernel
theorem dX6_swell_11 : decode cX6_swell 11 = .ok (.getfield 51, 3) := by decide +kernel
theorem dX6_swell_14 : decode cX6_swell 14 = .ok (.bipush 8, 2) := by decide +kernel
theorem dX6_swell_16 : decode cX6_swell 16 = .ok (.iload_n 1, 1) := by decide +kernel
theorem dX6_swell_17 : decode cX6_swell 17 = .ok (.iadd, 1) := by decide +kernel
theorem dX6_swell_18 : decode cX6_swell 18 = .ok (.iaload, 1) := by decide +kernel
theorem dX6_swell_19 : decode cX6_swell 19 = .ok (.aload_n 0, 1) := by decide +kernel
theorem dX6_swell_20 : decode cX6_swell 20 = .ok (.getfield 13, 3) := by decide +kernel
theorem dX6_swell_23 : decode cX6_swell 23 = .ok (.iload_n 1, 1) := by decide +kernel
theorem dX6_swell_24 : decode cX6_swell 24 = .ok (.iaload, 1) := by decide +kernel
theorem dX6_swell_25 : decode cX6_swell 25 = .ok (.iadd, 1) := by decide +kernel
theorem dX6_swell_26 : decode cX6_swell 26 = .ok (.istore_n 2, 1) := by decide +kernel
theorem dX6_swell_27 : decode cX6_swell 27 = .ok (.aload_n 0, 1) := by decide +kernel
theorem dX6_swell_28 : decode cX6_swell 28 = .ok (.getfield 51, 3) := by decide +kernel
theorem dX6_swell_31 : decode cX6_swell 31 = .ok (.bipush 8, 2) := by decide +kernel
theorem dX6_swell_33 : decode cX6_swell 33 = .ok (.iload_n 1, 1) := by decide +kernel
theorem dX6_swell_34 : decode cX6_swell 34 = .ok (.iadd, 1) := by decide +kernel
theorem dX6_swell_35 : decode cX6_swell 35 = .ok (.aload_n 0, 1) := by decide +kernel
theorem dX6_swell_36 : decode cX6_swell 36 = .ok (.getfield 51, 3) := by decide +kernel
theorem dX6_swell_39 : decode cX6_swell 39 = .ok (.iconst 2, 1) := by decide +kernel
theorem dX6_swell_40 : decode cX6_swell 40 = .ok (.iload_n 1, 1) := by decide +kernel
theorem dX6_swell_41 : decode cX6_swell 41 = .ok (.iadd, 1) := by decide +kernel
theorem dX6_swell_42 : decode cX6_swell 42 = .ok (.iaload, 1) := by decide +kernel
theorem dX6_swell_43 : decode cX6_swell 43 = .ok (.bipush (-9), 2) := by decide +kernel
theorem dX6_swell_45 : decode cX6_swell 45 = .ok (.if_icmp .ne 15, 3) := by decide +kernel
theorem dX6_swell_48 : decode cX6_swell 48 = .ok (.aload_n 0, 1) := by decide +kernel
theorem dX6_swell_49 : decode cX6_swell 49 = .ok (.getfield 51, 3) := by decide +kernel
theorem dX6_swell_52 : decode cX6_swell 52 = .ok (.bipush 8, 2) := by decide +kernel
theorem dX6_swell_54 : decode cX6_swell 54 = .ok (.iload_n 1, 1) := by decide +kernel
theorem dX6_swell_55 : decode cX6_swell 55 = .ok (.iadd, 1) := by decide +kernel
theorem dX6_swell_56 : decode cX6_swell 56 = .ok (.iaload, 1) := by decide +kernel
theorem dX6_swell_57 : decode cX6_swell 57 = .ok (.goto 15, 3) := by decide +kernel
theorem dX6_swell_60 : decode cX6_swell 60 = .ok (.iload_n 2, 1) := by decide +kernel
theorem dX6_swell_61 : decode cX6_swell 61 = .ok (.bipush 30, 2) := by decide +kernel
theorem dX6_swell_63 : decode cX6_swell 63 = .ok (.if_icmp .le 8, 3) := by decide +kernel
theorem dX6_swell_66 : decode cX6_swell 66 = .ok (.bipush 30, 2) := by decide +kernel
theorem dX6_swell_68 : decode cX6_swell 68 = .ok (.goto 4, 3) := by decide +kernel
theorem dX6_swell_71 : decode cX6_swell 71 = .ok (.iload_n 2, 1) := by decide +kernel
theorem dX6_swell_72 : decode cX6_swell 72 = .ok (.iastore, 1) := by decide +kernel
theorem dX6_swell_73 : decode cX6_swell 73 = .ok (.iinc 1 1, 3) := by decide +kernel
theorem dX6_swell_76 : decode cX6_swell 76 = .ok (.goto (-74), 3) := by decide +kernel
theorem dX6_swell_79 : decode cX6_swell 79 = .ok (.return_, 1) := by decide +kernel
theorem dX6_lift_0 : decode cX6_lift 0 = .ok (.iconst 0, 1) := by decide +kernel
theorem dX6_lift_1 : decode cX6_lift 1 = .ok (.istore_n 2, 1) := by decide +kernel
theorem dX6_lift_2 : decode cX6_lift 2 = .ok (.iconst 0, 1) := by decide +kernel
theorem dX6_lift_3 : decode cX6_lift 3 = .ok (.istore_n 3, 1) := by decide +kernel
theorem dX6_lift_4 : decode cX6_lift 4 = .ok (.iload_n 3, 1) := by decide +kernel
theorem dX6_lift_5 : decode cX6_lift 5 = .ok (.aload_n 0, 1) := by decide +kernel
theorem dX6_lift_6 : decode cX6_lift 6 = .ok (.getfield 60, 3) := by decide +kernel
theorem dX6_lift_9 : decode cX6_lift 9 = .ok (.if_icmp .ge 47, 3) := by decide +kernel
theorem dX6_lift_12 : decode cX6_lift 12 = .ok (.iload_n 2, 1) := by decide +kernel
theorem dX6_lift_13 : decode cX6_lift 13 = .ok (.iload_n 1, 1) := by decide +kernel
theorem dX6_lift_14 : decode cX6_lift 14 = .ok (.iload_n 3, 1) := by decide +kernel
theorem dX6_lift_15 : decode cX6_lift 15 = .ok (.invokestatic 139, 3) := by decide +kernel
theorem dX6_lift_18 : decode cX6_lift 18 = .ok (.ifCond .eq 29, 3) := by decide +kernel
theorem dX6_lift_21 : decode cX6_lift 21 = .ok (.aload_n 0, 1) := by decide +kernel
theorem dX6_lift_22 : decode cX6_lift 22 = .ok (.getfield 51, 3) := by decide +kernel
theorem dX6_lift_25 : decode cX6_lift 25 = .ok (.bipush 8, 2) := by decide +kernel
theorem dX6_lift_27 : decode cX6_lift 27 = .ok (.iload_n 3, 1) := by decide +kernel
theorem dX6_lift_28 : decode cX6_lift 28 = .ok (.iadd, 1) := by decide +kernel
theorem dX6_lift_29 : decode cX6_lift 29 = .ok (.iaload, 1) := by decide +kernel
theorem dX6_lift_30 : decode cX6_lift 30 = .ok (.aload_n 0, 1) := by decide +kernel
theorem dX6_lift_31 : decode cX6_lift 31 = .ok (.getfield 51, 3) := by decide +kernel
theorem dX6_lift_34 : decode cX6_lift 34 = .ok (.iconst 1, 1) := by decide +kernel
theorem dX6_lift_35 : decode cX6_lift 35 = .ok (.iaload, 1) := by decide +kernel
theorem dX6_lift_36 : decode cX6_lift 36 = .ok (.iadd, 1) := by decide +kernel
theorem dX6_lift_37 : decode cX6_lift 37 = .ok (.aload_n 0, 1) := by decide +kernel
theorem dX6_lift_38 : decode cX6_lift 38 = .ok (.getfield 7, 3) := by decide +kernel
theorem dX6_lift_41 : decode cX6_lift 41 = .ok (.iload_n 3, 1) := by decide +kernel
theorem dX6_lift_42 : decode cX6_lift 42 = .ok (.iaload, 1) := by decide +kernel
theorem dX6_lift_43 : decode cX6_lift 43 = .ok (.isub, 1) := by decide +kernel
theorem dX6_lift_44 : decode cX6_lift 44 = .ok (.goto 4, 3) := by decide +kernel
theorem dX6_lift_47 : decode cX6_lift 47 = .ok (.iconst 0, 1) := by decide +kernel
theorem dX6_lift_48 : decode cX6_lift 48 = .ok (.iadd, 1) := by decide +kernel
theorem dX6_lift_49 : decode cX6_lift 49 = .ok (.istore_n 2, 1) := by decide +kernel
theorem dX6_lift_50 : decode cX6_lift 50 = .ok (.iinc 3 1, 3) := by decide +kernel
theorem dX6_lift_53 : decode cX6_lift 53 = .ok (.goto (-49), 3) := by decide +kernel
theorem dX6_lift_56 : decode cX6_lift 56 = .ok (.iload_n 2, 1) := by decide +kernel
theorem dX6_lift_57 : decode cX6_lift 57 = .ok (.ireturn, 1) := by decide +kernel
theorem dX6_floats_0 : decode cX6_floats 0 = .ok (.iconst 0, 1) := by decide +kernel
theorem dX6_floats_1 : decode cX6_floats 1 = .ok (.istore_n 1, 1) := by decide +kernel
theorem dX6_floats_2 : decode cX6_floats 2 = .ok (.iload_n 1, 1) := by decide +kernel
theorem dX6_floats_3 : decode cX6_floats 3 = .ok (.aload_n 0, 1) := by decide +kernel
theorem dX6_floats_4 : decode cX6_floats 4 = .ok (.getfield 60, 3) := by decide +kernel
theorem dX6_floats_7 : decode cX6_floats 7 = .ok (.if_icmp .ge 91, 3) := by decide +kernel
theorem dX6_floats_10 : decode cX6_floats 10 = .ok (.aload_n 0, 1) := by decide +kernel
theorem dX6_floats_11 : decode cX6_floats 11 = .ok (.aload_n 0, 1) := by decide +kernel
theorem dX6_floats_12 : decode cX6_floats 12 = .ok (.getfield 51, 3) := by decide +kernel
theorem dX6_floats_15 : decode cX6_floats 15 = .ok (.bipush 14, 2) := by decide +kernel
theorem dX6_floats_17 : decode cX6_floats 17 = .ok (.iload_n 1, 1) := by decide +kernel
theorem dX6_floats_18 : decode cX6_floats 18 = .ok (.iadd, 1) := by decide +kernel
theorem dX6_floats_19 : decode cX6_floats 19 = .ok (.iaload, 1) := by decide +kernel
theorem dX6_floats_20 : decode cX6_floats 20 = .ok (.invokevirtual 143, 3) := by decide +kernel
theorem dX6_floats_23 : decode cX6_floats 23 = .ok (.istore_n 2, 1) := by decide +kernel
theorem dX6_floats_24 : decode cX6_floats 24 = .ok (.aload_n 0, 1) := by decide +kernel
theorem dX6_floats_25 : decode cX6_floats 25 = .ok (.getfield 51, 3) := by decide +kernel
theorem dX6_floats_28 : decode cX6_floats 28 = .ok (.iconst 2, 1) := by decide +kernel
theorem dX6_floats_29 : decode cX6_floats 29 = .ok (.iload_n 1, 1) := by decide +kernel
theorem dX6_floats_30 : decode cX6_floats 30 = .ok (.iadd, 1) := by decide +kernel
theorem dX6_floats_31 : decode cX6_floats 31 = .ok (.iaload, 1) := by decide +kernel
theorem dX6_floats_32 : decode cX6_floats 32 = .ok (.bipush (-9), 2) := by decide +kernel
theorem dX6_floats_34 : decode cX6_floats 34 = .ok (.if_icmp .eq 58, 3) := by decide +kernel
theorem dX6_floats_37 : decode cX6_floats 37 = .ok (.aload_n 0, 1) := by decide +kernel
theorem dX6_floats_38 : decode cX6_floats 38 = .ok (.getfield 51, 3) := by decide +kernel
theorem dX6_floats_41 : decode cX6_floats 41 = .ok (.iconst 2, 1) := by decide +kernel
theorem dX6_floats_42 : decode cX6_floats 42 = .ok (.iload_n 1, 1) := by decide +kernel
theorem dX6_floats_43 : decode cX6_floats 43 = .ok (.iadd, 1) := by decide +kernel
theorem dX6_floats_44 : decode cX6_floats 44 = .ok (.iaload, 1) := by decide +kernel
theorem dX6_floats_45 : decode cX6_floats 45 = .ok (.iload_n 2, 1) := by decide +kernel
theorem dX6_floats_46 : decode cX6_floats 46 = .ok (.ifCond .le 7, 3) := by decide +kernel
theorem dX6_floats_49 : decode cX6_floats 49 = .ok (.iconst 1, 1) := by decide +kernel
theorem dX6_floats_50 : decode cX6_floats 50 = .ok (.goto 12, 3) := by decide +kernel
theorem dX6_floats_53 : decode cX6_floats 53 = .ok (.iload_n 2, 1) := by decide +kernel
theorem dX6_floats_54 : decode cX6_floats 54 = .ok (.ifCond .ge 7, 3) := by decide +kernel
theorem dX6_floats_57 : decode cX6_floats 57 = .ok (.iconst (-1), 1) := by decide +kernel
theorem dX6_floats_58 : decode cX6_floats 58 = .ok (.goto 4, 3) := by decide +kernel
theorem dX6_floats_61 : decode cX6_floats 61 = .ok (.iconst 0, 1) := by decide +kernel
theorem dX6_floats_62 : decode cX6_floats 62 = .ok (.isub, 1) := by decide +kernel
theorem dX6_floats_63 : decode cX6_floats 63 = .ok (.istore_n 3, 1) := by decide +kernel
theorem dX6_floats_64 : decode cX6_floats 64 = .ok (.aload_n 0, 1) := by decide +kernel
theorem dX6_floats_65 : decode cX6_floats 65 = .ok (.getfield 51, 3) := by decide +kernel
theorem dX6_floats_68 : decode cX6_floats 68 = .ok (.iconst 2, 1) := by decide +kernel
theorem dX6_floats_69 : decode cX6_floats 69 = .ok (.iload_n 1, 1) := by decide +kernel
theorem dX6_floats_70 : decode cX6_floats 70 = .ok (.iadd, 1) := by decide +kernel
theorem dX6_floats_71 : decode cX6_floats 71 = .ok (.iload_n 3, 1) := by decide +kernel
theorem dX6_floats_72 : decode cX6_floats 72 = .ok (.ifCond .ge 7, 3) := by decide +kernel
theorem dX6_floats_75 : decode cX6_floats 75 = .ok (.iconst 0, 1) := by decide +kernel
theorem dX6_floats_76 : decode cX6_floats 76 = .ok (.goto 15, 3) := by decide +kernel
theorem dX6_floats_79 : decode cX6_floats 79 = .ok (.iload_n 3, 1) := by decide +kernel
theorem dX6_floats_80 : decode cX6_floats 80 = .ok (.bipush 10, 2) := by decide +kernel
theorem dX6_floats_82 : decode cX6_floats 82 = .ok (.if_icmp .le 8, 3) := by decide +kernel
theorem dX6_floats_85 : decode cX6_floats 85 = .ok (.bipush 10, 2) := by decide +kernel
theorem dX6_floats_87 : decode cX6_floats 87 = .ok (.goto 4, 3) := by decide +kernel
theorem dX6_floats_90 : decode cX6_floats 90 = .ok (.iload_n 3, 1) := by decide +kernel
theorem dX6_floats_91 : decode cX6_floats 91 = .ok (.iastore, 1) := by decide +kernel
theorem dX6_floats_92 : decode cX6_floats 92 = .ok (.iinc 1 1, 3) := by decide +kernel
theorem dX6_floats_95 : decode cX6_floats 95 = .ok (.goto (-93), 3) := by decide +kernel
theorem dX6_floats_98 : decode cX6_floats 98 = .ok (.return_, 1) := by decide +kernel
theorem dX6_stick_0 : decode cX6_stick 0 = .ok (.iconst 0, 1) := by decide +kernel
theorem dX6_stick_1 : decode cX6_stick 1 = .ok (.istore_n 1, 1) := by decide +kernel
theorem dX6_stick_2 : decode cX6_stick 2 = .ok (.iload_n 1, 1) := by decide +kernel
theorem dX6_stick_3 : decode cX6_stick 3 = .ok (.aload_n 0, 1) := by decide +kernel
theorem dX6_stick_4 : decode cX6_stick 4 = .ok (.getfield 60, 3) := by decide +kernel
theorem dX6_stick_7 : decode cX6_stick 7 = .ok (.if_icmp .ge 150, 3) := by decide +kernel
theorem dX6_stick_10 : decode cX6_stick 10 = .ok (.iload_n 1, 1) := by decide +kernel
theorem dX6_stick_11 : decode cX6_stick 11 = .ok (.iconst 1, 1) := by decide +kernel
theorem dX6_stick_12 : decode cX6_stick 12 = .ok (.iadd, 1) := by decide +kernel
theorem dX6_stick_13 : decode cX6_stick 13 = .ok (.istore_n 2, 1) := by decide +kernel
theorem dX6_stick_14 : decode cX6_stick 14 = .ok (.iload_n 2, 1) := by decide +kernel
theorem dX6_stick_15 : decode cX6_stick 15 = .ok (.aload_n 0, 1) := by decide +kernel
theorem dX6_stick_16 : decode cX6_stick 16 = .ok (.getfield 60, 3) := by decide +kernel
theorem dX6_stick_19 : decode cX6_stick 19 = .ok (.if_icmp .ge 132, 3) := by decide +kernel
theorem dX6_stick_22 : decode cX6_stick 22 = .ok (.aload_n 0, 1) := by decide +kernel
theorem dX6_stick_23 : decode cX6_stick 23 = .ok (.getfield 51, 3) := by decide +kernel
theorem dX6_stick_26 : decode cX6_stick 26 = .ok (.bipush 8, 2) := by decide +kernel
theorem dX6_stick_28 : decode cX6_stick 28 = .ok (.iload_n 1, 1) := by decide +kernel
theorem dX6_stick_29 : decode cX6_stick 29 = .ok (.iadd, 1) := by decide +kernel
theorem dX6_stick_30 : decode cX6_stick 30 = .ok (.iaload, 1) := by decide +kernel
theorem dX6_stick_31 : decode cX6_stick 31 = .ok (.aload_n 0, 1) := by decide +kernel
theorem dX6_stick_32 : decode cX6_stick 32 = .ok (.getfield 51, 3) := by decide +kernel
theorem dX6_stick_35 : decode cX6_stick 35 = .ok (.bipush 8, 2) := by decide +kernel
theorem dX6_stick_37 : decode cX6_stick 37 = .ok (.iload_n 2, 1) := by decide +kernel
theorem dX6_stick_38 : decode cX6_stick 38 = .ok (.iadd, 1) := by decide +kernel
theorem dX6_stick_39 : decode cX6_stick 39 = .ok (.iaload, 1) := by decide +kernel
theorem dX6_stick_40 : decode cX6_stick 40 = .ok (.isub, 1) := by decide +kernel
theorem dX6_stick_41 : decode cX6_stick 41 = .ok (.istore_n 3, 1) := by decide +kernel
theorem dX6_stick_42 : decode cX6_stick 42 = .ok (.aload_n 0, 1) := by decide +kernel
theorem dX6_stick_43 : decode cX6_stick 43 = .ok (.getfield 51, 3) := by decide +kernel
theorem dX6_stick_46 : decode cX6_stick 46 = .ok (.iconst 2, 1) := by decide +kernel
theorem dX6_stick_47 : decode cX6_stick 47 = .ok (.iload_n 1, 1) := by decide +kernel
theorem dX6_stick_48 : decode cX6_stick 48 = .ok (.iadd, 1) := by decide +kernel
theorem dX6_stick_49 : decode cX6_stick 49 = .ok (.iaload, 1) := by decide +kernel
theorem dX6_stick_50 : decode cX6_stick 50 = .ok (.aload_n 0, 1) := by decide +kernel
theorem dX6_stick_51 : decode cX6_stick 51 = .ok (.getfield 51, 3) := by decide +kernel
theorem dX6_stick_54 : decode cX6_stick 54 = .ok (.iconst 2, 1) := by decide +kernel
theorem dX6_stick_55 : decode cX6_stick 55 = .ok (.iload_n 2, 1) := by decide +kernel
theorem dX6_stick_56 : decode cX6_stick 56 = .ok (.iadd, 1) := by decide +kernel
theorem dX6_stick_57 : decode cX6_stick 57 = .ok (.iaload, 1) := by decide +kernel
theorem dX6_stick_58 : decode cX6_stick 58 = .ok (.if_icmp .ne 56, 3) := by decide +kernel
theorem dX6_stick_61 : decode cX6_stick 61 = .ok (.aload_n 0, 1) := by decide +kernel
theorem dX6_stick_62 : decode cX6_stick 62 = .ok (.getfield 51, 3) := by decide +kernel
theorem dX6_stick_65 : decode cX6_stick 65 = .ok (.iconst 2, 1) := by decide +kernel
theorem dX6_stick_66 : decode cX6_stick 66 = .ok (.iload_n 1, 1) := by decide +kernel
theorem dX6_stick_67 : decode cX6_stick 67 = .ok (.iadd, 1) := by decide +kernel
theorem dX6_stick_68 : decode cX6_stick 68 = .ok (.iaload, 1) := by decide +kernel
theorem dX6_stick_69 : decode cX6_stick 69 = .ok (.iconst 1, 1) := by decide +kernel
theorem dX6_stick_70 : decode cX6_stick 70 = .ok (.bipush 9, 2) := by decide +kernel
theorem dX6_stick_72 : decode cX6_stick 72 = .ok (.invokestatic 63, 3) := by decide +kernel
theorem dX6_stick_75 : decode cX6_stick 75 = .ok (.ifCond .eq 39, 3) := by decide +kernel
theorem dX6_stick_78 : decode cX6_stick 78 = .ok (.iload_n 3, 1) := by decide +kernel
theorem dX6_stick_79 : decode cX6_stick 79 = .ok (.aload_n 0, 1) := by decide +kernel
theorem dX6_stick_80 : decode cX6_stick 80 = .ok (.getfield 23, 3) := by decide +kernel
theorem dX6_stick_83 : decode cX6_stick 83 = .ok (.ineg, 1) := by decide +kernel
theorem dX6_stick_84 : decode cX6_stick 84 = .ok (.aload_n 0, 1) := by decide +kernel
theorem dX6_stick_85 : decode cX6_stick 85 = .ok (.getfield 23, 3) := by decide +kernel
theorem dX6_stick_88 : decode cX6_stick 88 = .ok (.invokestatic 63, 3) := by decide +kernel
theorem dX6_stick_91 : decode cX6_stick 91 = .ok (.ifCond .eq 23, 3) := by decide +kernel
theorem dX6_stick_94 : decode cX6_stick 94 = .ok (.aload_n 0, 1) := by decide +kernel
theorem dX6_stick_95 : decode cX6_stick 95 = .ok (.getfield 51, 3) := by decide +kernel
theorem dX6_stick_98 : decode cX6_stick 98 = .ok (.bipush 14, 2) := by decide +kernel
theorem dX6_stick_100 : decode cX6_stick 100 = .ok (.iload_n 1, 1) := by decide +kernel
theorem dX6_stick_101 : decode cX6_stick 101 = .ok (.iadd, 1) := by decide +kernel
theorem dX6_stick_102 : decode cX6_stick 102 = .ok (.iaload, 1) := by decide +kernel
theorem dX6_stick_103 : decode cX6_stick 103 = .ok (.iload_n 2, 1) := by decide +kernel
theorem dX6_stick_104 : decode cX6_stick 104 = .ok (.invokestatic 139, 3) := by decide +kernel
theorem dX6_stick_107 : decode cX6_stick 107 = .ok (.ifCond .ne 7, 3) := by decide +kernel
theorem dX6_stick_110 : decode cX6_stick 110 = .ok (.iconst 1, 1) := by decide +kernel
theorem dX6_stick_111 : decode cX6_stick 111 = .ok (.goto 4, 3) := by decide +kernel
theorem dX6_stick_114 : decode cX6_stick 114 = .ok (.iconst 0, 1) := by decide +kernel
theorem dX6_stick_115 : decode cX6_stick 115 = .ok (.istore 4, 2) := by decide +kernel
theorem dX6_stick_117 : decode cX6_stick 117 = .ok (.iload 4, 2) := by decide +kernel
theorem dX6_stick_119 : decode cX6_stick 119 = .ok (.ifCond .eq 26, 3) := by decide +kernel
theorem dX6_stick_122 : decode cX6_stick 122 = .ok (.aload_n 0, 1) := by decide +kernel
theorem dX6_stick_123 : decode cX6_stick 123 = .ok (.aload_n 0, 1) := by decide +kernel
theorem dX6_stick_124 : decode cX6_stick 124 = .ok (.getfield 51, 3) := by decide +kernel
theorem dX6_stick_127 : decode cX6_stick 127 = .ok (.bipush 14, 2) := by decide +kernel
theorem dX6_stick_129 : decode cX6_stick 129 = .ok (.iload_n 1, 1) := by decide +kernel
theorem dX6_stick_130 : decode cX6_stick 130 = .ok (.iadd, 1) := by decide +kernel
theorem dX6_stick_131 : decode cX6_stick 131 = .ok (.iaload, 1) := by decide +kernel
theorem dX6_stick_132 : decode cX6_stick 132 = .ok (.aload_n 0, 1) := by decide +kernel
theorem dX6_stick_133 : decode cX6_stick 133 = .ok (.getfield 51, 3) := by decide +kernel
theorem dX6_stick_136 : decode cX6_stick 136 = .ok (.bipush 14, 2) := by decide +kernel
theorem dX6_stick_138 : decode cX6_stick 138 = .ok (.iload_n 2, 1) := by decide +kernel
theorem dX6_stick_139 : decode cX6_stick 139 = .ok (.iadd, 1) := by decide +kernel
theorem dX6_stick_140 : decode cX6_stick 140 = .ok (.iaload, 1) := by decide +kernel
theorem dX6_stick_141 : decode cX6_stick 141 = .ok (.ior, 1) := by decide +kernel
theorem dX6_stick_142 : decode cX6_stick 142 = .ok (.invokevirtual 146, 3) := by decide +kernel
theorem dX6_stick_145 : decode cX6_stick 145 = .ok (.iinc 2 1, 3) := by decide +kernel
theorem dX6_stick_148 : decode cX6_stick 148 = .ok (.goto (-134), 3) := by decide +kernel
theorem dX6_stick_151 : decode cX6_stick 151 = .ok (.iinc 1 1, 3) := by decide +kernel
theorem dX6_stick_154 : decode cX6_stick 154 = .ok (.goto (-152), 3) := by decide +kernel
theorem dX6_stick_157 : decode cX6_stick 157 = .ok (.return_, 1) := by decide +kernel
theorem dX6_lays_0 : decode cX6_lays 0 = .ok (.iconst 0, 1) := by decide +kernel
theorem dX6_lays_1 : decode cX6_lays 1 = .ok (.istore_n 2, 1) := by decide +kernel
theorem dX6_lays_2 : decode cX6_lays 2 = .ok (.iload_n 2, 1) := by decide +kernel
theorem dX6_lays_3 : decode cX6_lays 3 = .ok (.aload_n 0, 1) := by decide +kernel
theorem dX6_lays_4 : decode cX6_lays 4 = .ok (.getfield 60, 3) := by decide +kernel
theorem dX6_lays_7 : decode cX6_lays 7 = .ok (.if_icmp .ge 39, 3) := by decide +kernel
theorem dX6_lays_10 : decode cX6_lays 10 = .ok (.aload_n 0, 1) := by decide +kernel
theorem dX6_lays_11 : decode cX6_lays 11 = .ok (.getfield 51, 3) := by decide +kernel
theorem dX6_lays_14 : decode cX6_lays 14 = .ok (.bipush 14, 2) := by decide +kernel
theorem dX6_lays_16 : decode cX6_lays 16 = .ok (.iload_n 2, 1) := by decide +kernel
theorem dX6_lays_17 : decode cX6_lays 17 = .ok (.iadd, 1) := by decide +kernel
theorem dX6_lays_18 : decode cX6_lays 18 = .ok (.iload_n 1, 1) := by decide +kernel
theorem dX6_lays_19 : decode cX6_lays 19 = .ok (.iload_n 2, 1) := by decide +kernel
theorem dX6_lays_20 : decode cX6_lays 20 = .ok (.invokestatic 139, 3) := by decide +kernel
theorem dX6_lays_23 : decode cX6_lays 23 = .ok (.ifCond .eq 7, 3) := by decide +kernel
theorem dX6_lays_26 : decode cX6_lays 26 = .ok (.iload_n 1, 1) := by decide +kernel
theorem dX6_lays_27 : decode cX6_lays 27 = .ok (.goto 12, 3) := by decide +kernel
theorem dX6_lays_30 : decode cX6_lays 30 = .ok (.aload_n 0, 1) := by decide +kernel
theorem dX6_lays_31 : decode cX6_lays 31 = .ok (.getfield 51, 3) := by decide +kernel
theorem dX6_lays_34 : decode cX6_lays 34 = .ok (.bipush 14, 2) := by decide +kernel
theorem dX6_lays_36 : decode cX6_lays 36 = .ok (.iload_n 2, 1) := by decide +kernel
theorem dX6_lays_37 : decode cX6_lays 37 = .ok (.iadd, 1) := by decide +kernel
theorem dX6_lays_38 : decode cX6_lays 38 = .ok (.iaload, 1) := by decide +kernel
theorem dX6_lays_39 : decode cX6_lays 39 = .ok (.iastore, 1) := by decide +kernel
theorem dX6_lays_40 : decode cX6_lays 40 = .ok (.iinc 2 1, 3) := by decide +kernel
theorem dX6_lays_43 : decode cX6_lays 43 = .ok (.goto (-41), 3) := by decide +kernel
theorem dX6_lays_46 : decode cX6_lays 46 = .ok (.return_, 1) := by decide +kernel
theorem dX6_goesBy_0 : decode cX6_goesBy 0 = .ok (.aload_n 0, 1) := by decide +kernel
theorem dX6_goesBy_1 : decode cX6_goesBy 1 = .ok (.getfield 51, 3) := by decide +kernel
theorem dX6_goesBy_4 : decode cX6_goesBy 4 = .ok (.iconst 0, 1) := by decide +kernel
theorem dX6_goesBy_5 : decode cX6_goesBy 5 = .ok (.dup2, 1) := by decide +kernel
theorem dX6_goesBy_6 : decode cX6_goesBy 6 = .ok (.iaload, 1) := by decide +kernel
theorem dX6_goesBy_7 : decode cX6_goesBy 7 = .ok (.iconst 1, 1) := by decide +kernel
theorem dX6_goesBy_8 : decode cX6_goesBy 8 = .ok (.iadd, 1) := by decide +kernel
theorem dX6_goesBy_9 : decode cX6_goesBy 9 = .ok (.iastore, 1) := by decide +kernel
theorem dX6_goesBy_10 : decode cX6_goesBy 10 = .ok (.aload_n 0, 1) := by decide +kernel
theorem dX6_goesBy_11 : decode cX6_goesBy 11 = .ok (.invokevirtual 149, 3) := by decide +kernel
theorem dX6_goesBy_14 : decode cX6_goesBy 14 = .ok (.aload_n 0, 1) := by decide +kernel
theorem dX6_goesBy_15 : decode cX6_goesBy 15 = .ok (.invokevirtual 152, 3) := by decide +kernel
theorem dX6_goesBy_18 : decode cX6_goesBy 18 = .ok (.aload_n 0, 1) := by decide +kernel
theorem dX6_goesBy_19 : decode cX6_goesBy 19 = .ok (.invokevirtual 155, 3) := by decide +kernel
theorem dX6_goesBy_22 : decode cX6_goesBy 22 = .ok (.iconst 0, 1) := by decide +kernel
theorem dX6_goesBy_23 : decode cX6_goesBy 23 = .ok (.istore_n 1, 1) := by decide +kernel
theorem dX6_goesBy_24 : decode cX6_goesBy 24 = .ok (.iload_n 1, 1) := by decide +kernel
theorem dX6_goesBy_25 : decode cX6_goesBy 25 = .ok (.aload_n 0, 1) := by decide +kernel
theorem dX6_goesBy_26 : decode cX6_goesBy 26 = .ok (.getfield 60, 3) := by decide +kernel
theorem dX6_goesBy_29 : decode cX6_goesBy 29 = .ok (.if_icmp .ge 61, 3) := by decide +kernel
theorem dX6_goesBy_32 : decode cX6_goesBy 32 = .ok (.aload_n 0, 1) := by decide +kernel
theorem dX6_goesBy_33 : decode cX6_goesBy 33 = .ok (.getfield 51, 3) := by decide +kernel
theorem dX6_goesBy_36 : decode cX6_goesBy 36 = .ok (.bipush 20, 2) := by decide +kernel
theorem dX6_goesBy_38 : decode cX6_goesBy 38 = .ok (.iload_n 1, 1) := by decide +kernel
theorem dX6_goesBy_39 : decode cX6_goesBy 39 = .ok (.iadd, 1) := by decide +kernel
theorem dX6_goesBy_40 : decode cX6_goesBy 40 = .ok (.aload_n 0, 1) := by decide +kernel
theorem dX6_goesBy_41 : decode cX6_goesBy 41 = .ok (.getfield 51, 3) := by decide +kernel
theorem dX6_goesBy_44 : decode cX6_goesBy 44 = .ok (.iconst 2, 1) := by decide +kernel
theorem dX6_goesBy_45 : decode cX6_goesBy 45 = .ok (.iload_n 1, 1) := by decide +kernel
theorem dX6_goesBy_46 : decode cX6_goesBy 46 = .ok (.iadd, 1) := by decide +kernel
theorem dX6_goesBy_47 : decode cX6_goesBy 47 = .ok (.iaload, 1) := by decide +kernel
theorem dX6_goesBy_48 : decode cX6_goesBy 48 = .ok (.ifCond .ne 26, 3) := by decide +kernel
theorem dX6_goesBy_51 : decode cX6_goesBy 51 = .ok (.aload_n 0, 1) := by decide +kernel
theorem dX6_goesBy_52 : decode cX6_goesBy 52 = .ok (.getfield 51, 3) := by decide +kernel
theorem dX6_goesBy_55 : decode cX6_goesBy 55 = .ok (.bipush 20, 2) := by decide +kernel
theorem dX6_goesBy_57 : decode cX6_goesBy 57 = .ok (.iload_n 1, 1) := by decide +kernel
theorem dX6_goesBy_58 : decode cX6_goesBy 58 = .ok (.iadd, 1) := by decide +kernel
theorem dX6_goesBy_59 : decode cX6_goesBy 59 = .ok (.iaload, 1) := by decide +kernel
theorem dX6_goesBy_60 : decode cX6_goesBy 60 = .ok (.bipush (-9), 2) := by decide +kernel
theorem dX6_goesBy_62 : decode cX6_goesBy 62 = .ok (.if_icmp .ne 12, 3) := by decide +kernel
theorem dX6_goesBy_65 : decode cX6_goesBy 65 = .ok (.aload_n 0, 1) := by decide +kernel
theorem dX6_goesBy_66 : decode cX6_goesBy 66 = .ok (.getfield 51, 3) := by decide +kernel
theorem dX6_goesBy_69 : decode cX6_goesBy 69 = .ok (.iconst 0, 1) := by decide +kernel
theorem dX6_goesBy_70 : decode cX6_goesBy 70 = .ok (.iaload, 1) := by decide +kernel
theorem dX6_goesBy_71 : decode cX6_goesBy 71 = .ok (.goto 12, 3) := by decide +kernel
theorem dX6_goesBy_74 : decode cX6_goesBy 74 = .ok (.aload_n 0, 1) := by decide +kernel
theorem dX6_goesBy_75 : decode cX6_goesBy 75 = .ok (.getfield 51, 3) := by decide +kernel
theorem dX6_goesBy_78 : decode cX6_goesBy 78 = .ok (.bipush 20, 2) := by decide +kernel
theorem dX6_goesBy_80 : decode cX6_goesBy 80 = .ok (.iload_n 1, 1) := by decide +kernel
theorem dX6_goesBy_81 : decode cX6_goesBy 81 = .ok (.iadd, 1) := by decide +kernel
theorem dX6_goesBy_82 : decode cX6_goesBy 82 = .ok (.iaload, 1) := by decide +kernel
theorem dX6_goesBy_83 : decode cX6_goesBy 83 = .ok (.iastore, 1) := by decide +kernel
theorem dX6_goesBy_84 : decode cX6_goesBy 84 = .ok (.iinc 1 1, 3) := by decide +kernel
theorem dX6_goesBy_87 : decode cX6_goesBy 87 = .ok (.goto (-63), 3) := by decide +kernel
theorem dX6_goesBy_90 : decode cX6_goesBy 90 = .ok (.return_, 1) := by decide +kernel
theorem dX6_atDepth_0 : decode cX6_atDepth 0 = .ok (.iconst 0, 1) := by decide +kernel
theorem dX6_atDepth_1 : decode cX6_atDepth 1 = .ok (.istore_n 2, 1) := by decide +kernel
theorem dX6_atDepth_2 : decode cX6_atDepth 2 = .ok (.iconst 0, 1) := by decide +kernel
theorem dX6_atDepth_3 : decode cX6_atDepth 3 = .ok (.istore_n 3, 1) := by decide +kernel
theorem dX6_atDepth_4 : decode cX6_atDepth 4 = .ok (.iload_n 3, 1) := by decide +kernel
theorem dX6_atDepth_5 : decode cX6_atDepth 5 = .ok (.aload_n 0, 1) := by decide +kernel
theorem dX6_atDepth_6 : decode cX6_atDepth 6 = .ok (.getfield 60, 3) := by decide +kernel
theorem dX6_atDepth_9 : decode cX6_atDepth 9 = .ok (.if_icmp .ge 31, 3) := by decide +kernel
theorem dX6_atDepth_12 : decode cX6_atDepth 12 = .ok (.iload_n 2, 1) := by decide +kernel
theorem dX6_atDepth_13 : decode cX6_atDepth 13 = .ok (.aload_n 0, 1) := by decide +kernel
theorem dX6_atDepth_14 : decode cX6_atDepth 14 = .ok (.getfield 51, 3) := by decide +kernel
theorem dX6_atDepth_17 : decode cX6_atDepth 17 = .ok (.iconst 2, 1) := by decide +kernel
theorem dX6_atDepth_18 : decode cX6_atDepth 18 = .ok (.iload_n 3, 1) := by decide +kernel
theorem dX6_atDepth_19 : decode cX6_atDepth 19 = .ok (.iadd, 1) := by decide +kernel
theorem dX6_atDepth_20 : decode cX6_atDepth 20 = .ok (.iaload, 1) := by decide +kernel
theorem dX6_atDepth_21 : decode cX6_atDepth 21 = .ok (.iload_n 1, 1) := by decide +kernel
theorem dX6_atDepth_22 : decode cX6_atDepth 22 = .ok (.if_icmp .ne 9, 3) := by decide +kernel
theorem dX6_atDepth_25 : decode cX6_atDepth 25 = .ok (.iconst 1, 1) := by decide +kernel
theorem dX6_atDepth_26 : decode cX6_atDepth 26 = .ok (.iload_n 3, 1) := by decide +kernel
theorem dX6_atDepth_27 : decode cX6_atDepth 27 = .ok (.ishl, 1) := by decide +kernel
theorem dX6_atDepth_28 : decode cX6_atDepth 28 = .ok (.goto 4, 3) := by decide +kernel
theorem dX6_atDepth_31 : decode cX6_atDepth 31 = .ok (.iconst 0, 1) := by decide +kernel
theorem dX6_atDepth_32 : decode cX6_atDepth 32 = .ok (.ior, 1) := by decide +kernel
theorem dX6_atDepth_33 : decode cX6_atDepth 33 = .ok (.istore_n 2, 1) := by decide +kernel
theorem dX6_atDepth_34 : decode cX6_atDepth 34 = .ok (.iinc 3 1, 3) := by decide +kernel
theorem dX6_atDepth_37 : decode cX6_atDepth 37 = .ok (.goto (-33), 3) := by decide +kernel
theorem dX6_atDepth_40 : decode cX6_atDepth 40 = .ok (.iload_n 2, 1) := by decide +kernel
theorem dX6_atDepth_41 : decode cX6_atDepth 41 = .ok (.ireturn, 1) := by decide +kernel
theorem dX6_dry_0 : decode cX6_dry 0 = .ok (.aload_n 0, 1) := by decide +kernel
theorem dX6_dry_1 : decode cX6_dry 1 = .ok (.invokevirtual 158, 3) := by decide +kernel
theorem dX6_dry_4 : decode cX6_dry 4 = .ok (.aload_n 0, 1) := by decide +kernel
theorem dX6_dry_5 : decode cX6_dry 5 = .ok (.bipush (-9), 2) := by decide +kernel
theorem dX6_dry_7 : decode cX6_dry 7 = .ok (.invokevirtual 161, 3) := by decide +kernel
theorem dX6_dry_10 : decode cX6_dry 10 = .ok (.ireturn, 1) := by decide +kernel
theorem dX6_dumpling_0 : decode cX6_dumpling 0 = .ok (.aload_n 0, 1) := by decide +kernel
theorem dX6_dumpling_1 : decode cX6_dumpling 1 = .ok (.iload_n 1, 1) := by decide +kernel
theorem dX6_dumpling_2 : decode cX6_dumpling 2 = .ok (.invokevirtual 164, 3) := by decide +kernel
theorem dX6_dumpling_5 : decode cX6_dumpling 5 = .ok (.ifCond .ne 5, 3) := by decide +kernel
theorem dX6_dumpling_8 : decode cX6_dumpling 8 = .ok (.iconst (-1), 1) := by decide +kernel
theorem dX6_dumpling_9 : decode cX6_dumpling 9 = .ok (.ireturn, 1) := by decide +kernel
theorem dX6_dumpling_10 : decode cX6_dumpling 10 = .ok (.iload_n 2, 1) := by decide +kernel
theorem dX6_dumpling_11 : decode cX6_dumpling 11 = .ok (.tableswitch 101 0 6 #[41, 48, 58, 65, 72, 81, 91], 41) := by decide +kernel
theorem dX6_dumpling_52 : decode cX6_dumpling 52 = .ok (.aload_n 0, 1) := by decide +kernel
theorem dX6_dumpling_53 : decode cX6_dumpling 53 = .ok (.getfield 7, 3) := by decide +kernel
theorem dX6_dumpling_56 : decode cX6_dumpling 56 = .ok (.iload_n 1, 1) := by decide +kernel
theorem dX6_dumpling_57 : decode cX6_dumpling 57 = .ok (.iaload, 1) := by decide +kernel
theorem dX6_dumpling_58 : decode cX6_dumpling 58 = .ok (.ireturn, 1) := by decide +kernel
theorem dX6_dumpling_59 : decode cX6_dumpling 59 = .ok (.aload_n 0, 1) := by decide +kernel
theorem dX6_dumpling_60 : decode cX6_dumpling 60 = .ok (.getfield 29, 3) := by decide +kernel
theorem dX6_dumpling_63 : decode cX6_dumpling 63 = .ok (.bipush 8, 2) := by decide +kernel
theorem dX6_dumpling_65 : decode cX6_dumpling 65 = .ok (.iload_n 1, 1) := by decide +kernel
theorem dX6_dumpling_66 : decode cX6_dumpling 66 = .ok (.iadd, 1) := by decide +kernel
theorem dX6_dumpling_67 : decode cX6_dumpling 67 = .ok (.iaload, 1) := by decide +kernel
theorem dX6_dumpling_68 : decode cX6_dumpling 68 = .ok (.ireturn, 1) := by decide +kernel
theorem dX6_dumpling_69 : decode cX6_dumpling 69 = .ok (.aload_n 0, 1) := by decide +kernel
theorem dX6_dumpling_70 : decode cX6_dumpling 70 = .ok (.getfield 13, 3) := by decide +kernel
theorem dX6_dumpling_73 : decode cX6_dumpling 73 = .ok (.iload_n 1, 1) := by decide +kernel
theorem dX6_dumpling_74 : decode cX6_dumpling 74 = .ok (.iaload, 1) := by decide +kernel
theorem dX6_dumpling_75 : decode cX6_dumpling 75 = .ok (.ireturn, 1) := by decide +kernel
theorem dX6_dumpling_76 : decode cX6_dumpling 76 = .ok (.aload_n 0, 1) := by decide +kernel
theorem dX6_dumpling_77 : decode cX6_dumpling 77 = .ok (.getfield 16, 3) := by decide +kernel
theorem dX6_dumpling_80 : decode cX6_dumpling 80 = .ok (.iload_n 1, 1) := by decide +kernel
theorem dX6_dumpling_81 : decode cX6_dumpling 81 = .ok (.iaload, 1) := by decide +kernel
theorem dX6_dumpling_82 : decode cX6_dumpling 82 = .ok (.ireturn, 1) := by decide +kernel
theorem dX6_dumpling_83 : decode cX6_dumpling 83 = .ok (.aload_n 0, 1) := by decide +kernel
theorem dX6_dumpling_84 : decode cX6_dumpling 84 = .ok (.getfield 29, 3) := by decide +kernel
theorem dX6_dumpling_87 : decode cX6_dumpling 87 = .ok (.iconst 2, 1) := by decide +kernel
theorem dX6_dumpling_88 : decode cX6_dumpling 88 = .ok (.iload_n 1, 1) := by decide +kernel
theorem dX6_dumpling_89 : decode cX6_dumpling 89 = .ok (.iadd, 1) := by decide +kernel
theorem dX6_dumpling_90 : decode cX6_dumpling 90 = .ok (.iaload, 1) := by decide +kernel
theorem dX6_dumpling_91 : decode cX6_dumpling 91 = .ok (.ireturn, 1) := by decide +kernel
theorem dX6_dumpling_92 : decode cX6_dumpling 92 = .ok (.aload_n 0, 1) := by decide +kernel
theorem dX6_dumpling_93 : decode cX6_dumpling 93 = .ok (.getfield 29, 3) := by decide +kernel
theorem dX6_dumpling_96 : decode cX6_dumpling 96 = .ok (.bipush 14, 2) := by decide +kernel
theorem dX6_dumpling_98 : decode cX6_dumpling 98 = .ok (.iload_n 1, 1) := by decide +kernel
theorem dX6_dumpling_99 : decode cX6_dumpling 99 = .ok (.iadd, 1) := by decide +kernel
theorem dX6_dumpling_100 : decode cX6_dumpling 100 = .ok (.iaload, 1) := by decide +kernel
theorem dX6_dumpling_101 : decode cX6_dumpling 101 = .ok (.ireturn, 1) := by decide +kernel
theorem dX6_dumpling_102 : decode cX6_dumpling 102 = .ok (.aload_n 0, 1) := by decide +kernel
theorem dX6_dumpling_103 : decode cX6_dumpling 103 = .ok (.getfield 29, 3) := by decide +kernel
theorem dX6_dumpling_106 : decode cX6_dumpling 106 = .ok (.bipush 20, 2) := by decide +kernel
theorem dX6_dumpling_108 : decode cX6_dumpling 108 = .ok (.iload_n 1, 1) := by decide +kernel
theorem dX6_dumpling_109 : decode cX6_dumpling 109 = .ok (.iadd, 1) := by decide +kernel
theorem dX6_dumpling_110 : decode cX6_dumpling 110 = .ok (.iaload, 1) := by decide +kernel
theorem dX6_dumpling_111 : decode cX6_dumpling 111 = .ok (.ireturn, 1) := by decide +kernel
theorem dX6_dumpling_112 : decode cX6_dumpling 112 = .ok (.iconst (-1), 1) := by decide +kernel
theorem dX6_dumpling_113 : decode cX6_dumpling 113 = .ok (.ireturn, 1) := by decide +kernel
theorem dX6_risenMany_0 : decode cX6_risenMany 0 = .ok (.iconst 0, 1) := by decide +kernel
theorem dX6_risenMany_1 : decode cX6_risenMany 1 = .ok (.istore_n 1, 1) := by decide +kernel
theorem dX6_risenMany_2 : decode cX6_risenMany 2 = .ok (.iconst 0, 1) := by decide +kernel
theorem dX6_risenMany_3 : decode cX6_risenMany 3 = .ok (.istore_n 2, 1) := by decide +kernel
theorem dX6_risenMany_4 : decode cX6_risenMany 4 = .ok (.iload_n 2, 1) := by decide +kernel
theorem dX6_risenMany_5 : decode cX6_risenMany 5 = .ok (.aload_n 0, 1) := by decide +kernel
theorem dX6_risenMany_6 : decode cX6_risenMany 6 = .ok (.getfield 60, 3) := by decide +kernel
theorem dX6_risenMany_9 : decode cX6_risenMany 9 = .ok (.if_icmp .ge 31, 3) := by decide +kernel
theorem dX6_risenMany_12 : decode cX6_risenMany 12 = .ok (.iload_n 1, 1) := by decide +kernel
theorem dX6_risenMany_13 : decode cX6_risenMany 13 = .ok (.aload_n 0, 1) := by decide +kernel
theorem dX6_risenMany_14 : decode cX6_risenMany 14 = .ok (.getfield 29, 3) := by decide +kernel
theorem dX6_risenMany_17 : decode cX6_risenMany 17 = .ok (.bipush 20, 2) := by decide +kernel
theorem dX6_risenMany_19 : decode cX6_risenMany 19 = .ok (.iload_n 2, 1) := by decide +kernel
theorem dX6_risenMany_20 : decode cX6_risenMany 20 = .ok (.iadd, 1) := by decide +kernel
theorem dX6_risenMany_21 : decode cX6_risenMany 21 = .ok (.iaload, 1) := by decide +kernel
theorem dX6_risenMany_22 : decode cX6_risenMany 22 = .ok (.bipush (-9), 2) := by decide +kernel
theorem dX6_risenMany_24 : decode cX6_risenMany 24 = .ok (.if_icmp .ne 7, 3) := by decide +kernel
theorem dX6_risenMany_27 : decode cX6_risenMany 27 = .ok (.iconst 0, 1) := by decide +kernel
theorem dX6_risenMany_28 : decode cX6_risenMany 28 = .ok (.goto 4, 3) := by decide +kernel
theorem dX6_risenMany_31 : decode cX6_risenMany 31 = .ok (.iconst 1, 1) := by decide +kernel
theorem dX6_risenMany_32 : decode cX6_risenMany 32 = .ok (.iadd, 1) := by decide +kernel
theorem dX6_risenMany_33 : decode cX6_risenMany 33 = .ok (.istore_n 1, 1) := by decide +kernel
theorem dX6_risenMany_34 : decode cX6_risenMany 34 = .ok (.iinc 2 1, 3) := by decide +kernel
theorem dX6_risenMany_37 : decode cX6_risenMany 37 = .ok (.goto (-33), 3) := by decide +kernel
theorem dX6_risenMany_40 : decode cX6_risenMany 40 = .ok (.iload_n 1, 1) := by decide +kernel
theorem dX6_risenMany_41 : decode cX6_risenMany 41 = .ok (.ireturn, 1) := by decide +kernel
theorem dX6_now_0 : decode cX6_now 0 = .ok (.aload_n 0, 1) := by decide +kernel
theorem dX6_now_1 : decode cX6_now 1 = .ok (.invokevirtual 158, 3) := by decide +kernel
theorem dX6_now_4 : decode cX6_now 4 = .ok (.iload_n 1, 1) := by decide +kernel
theorem dX6_now_5 : decode cX6_now 5 = .ok (.tableswitch 78 0 6 #[43, 43, 50, 57, 63, 68, 73], 43) := by decide +kernel
theorem dX6_now_48 : decode cX6_now 48 = .ok (.aload_n 0, 1) := by decide +kernel
theorem dX6_now_49 : decode cX6_now 49 = .ok (.getfield 29, 3) := by decide +kernel
theorem dX6_now_52 : decode cX6_now 52 = .ok (.iload_n 1, 1) := by decide +kernel
theorem dX6_now_53 : decode cX6_now 53 = .ok (.iaload, 1) := by decide +kernel
theorem dX6_now_54 : decode cX6_now 54 = .ok (.ireturn, 1) := by decide +kernel
theorem dX6_now_55 : decode cX6_now 55 = .ok (.aload_n 0, 1) := by decide +kernel
theorem dX6_now_56 : decode cX6_now 56 = .ok (.bipush (-9), 2) := by decide +kernel
theorem dX6_now_58 : decode cX6_now 58 = .ok (.invokevirtual 161, 3) := by decide +kernel
theorem dX6_now_61 : decode cX6_now 61 = .ok (.ireturn, 1) := by decide +kernel
theorem dX6_now_62 : decode cX6_now 62 = .ok (.aload_n 0, 1) := by decide +kernel
theorem dX6_now_63 : decode cX6_now 63 = .ok (.iconst 0, 1) := by decide +kernel
theorem dX6_now_64 : decode cX6_now 64 = .ok (.invokevirtual 161, 3) := by decide +kernel
theorem dX6_now_67 : decode cX6_now 67 = .ok (.ireturn, 1) := by decide +kernel
theorem dX6_now_68 : decode cX6_now 68 = .ok (.aload_n 0, 1) := by decide +kernel
theorem dX6_now_69 : decode cX6_now 69 = .ok (.invokevirtual 167, 3) := by decide +kernel
theorem dX6_now_72 : decode cX6_now 72 = .ok (.ireturn, 1) := by decide +kernel
theorem dX6_now_73 : decode cX6_now 73 = .ok (.aload_n 0, 1) := by decide +kernel
theorem dX6_now_74 : decode cX6_now 74 = .ok (.invokevirtual 171, 3) := by decide +kernel
theorem dX6_now_77 : decode cX6_now 77 = .ok (.ireturn, 1) := by decide +kernel
theorem dX6_now_78 : decode cX6_now 78 = .ok (.aload_n 0, 1) := by decide +kernel
theorem dX6_now_79 : decode cX6_now 79 = .ok (.getfield 129, 3) := by decide +kernel
theorem dX6_now_82 : decode cX6_now 82 = .ok (.ireturn, 1) := by decide +kernel
theorem dX6_now_83 : decode cX6_now 83 = .ok (.iconst (-1), 1) := by decide +kernel
theorem dX6_now_84 : decode cX6_now 84 = .ok (.ireturn, 1) := by decide +kernel
theorem dX6_order_0 : decode cX6_order 0 = .ok (.iload_n 1, 1) := by decide +kernel
theorem dX6_order_1 : decode cX6_order 1 = .ok (.iconst 0, 1) := by decide +kernel
theorem dX6_order_2 : decode cX6_order 2 = .ok (.iconst 5, 1) := by decide +kernel
theorem dX6_order_3 : decode cX6_order 3 = .ok (.invokestatic 63, 3) := by decide +kernel
theorem dX6_order_6 : decode cX6_order 6 = .ok (.ifCond .ne 5, 3) := by decide +kernel
theorem dX6_order_9 : decode cX6_order 9 = .ok (.iconst (-1), 1) := by decide +kernel
theorem dX6_order_10 : decode cX6_order 10 = .ok (.ireturn, 1) := by decide +kernel
theorem dX6_order_11 : decode cX6_order 11 = .ok (.iload_n 1, 1) := by decide +kernel
theorem dX6_order_12 : decode cX6_order 12 = .ok (.istore_n 2, 1) := by decide +kernel
theorem dX6_order_13 : decode cX6_order 13 = .ok (.iconst 1, 1) := by decide +kernel
theorem dX6_order_14 : decode cX6_order 14 = .ok (.istore_n 3, 1) := by decide +kernel
theorem dX6_order_15 : decode cX6_order 15 = .ok (.iload_n 3, 1) := by decide +kernel
theorem dX6_order_16 : decode cX6_order 16 = .ok (.bipush 99, 2) := by decide +kernel
theorem dX6_order_18 : decode cX6_order 18 = .ok (.if_icmp .gt 51, 3) := by decide +kernel
theorem dX6_order_21 : decode cX6_order 21 = .ok (.iconst 0, 1) := by decide +kernel
theorem dX6_order_22 : decode cX6_order 22 = .ok (.istore 4, 2) := by decide +kernel
theorem dX6_order_24 : decode cX6_order 24 = .ok (.iload 4, 2) := by decide +kernel
theorem dX6_order_26 : decode cX6_order 26 = .ok (.aload_n 0, 1) := by decide +kernel
theorem dX6_order_27 : decode cX6_order 27 = .ok (.getfield 60, 3) := by decide +kernel
theorem dX6_order_30 : decode cX6_order 30 = .ok (.if_icmp .ge 33, 3) := by decide +kernel
theorem dX6_order_33 : decode cX6_order 33 = .ok (.aload_n 0, 1) := by decide +kernel
theorem dX6_order_34 : decode cX6_order 34 = .ok (.getfield 29, 3) := by decide +kernel
theorem dX6_order_37 : decode cX6_order 37 = .ok (.bipush 20, 2) := by decide +kernel
theorem dX6_order_39 : decode cX6_order 39 = .ok (.iload 4, 2) := by decide +kernel
theorem dX6_order_41 : decode cX6_order 41 = .ok (.iadd, 1) := by decide +kernel
theorem dX6_order_42 : decode cX6_order 42 = .ok (.iaload, 1) := by decide +kernel
theorem dX6_order_43 : decode cX6_order 43 = .ok (.iload_n 3, 1) := by decide +kernel
theorem dX6_order_44 : decode cX6_order 44 = .ok (.if_icmp .ne 13, 3) := by decide +kernel
theorem dX6_order_47 : decode cX6_order 47 = .ok (.iload_n 2, 1) := by decide +kernel
theorem dX6_order_48 : decode cX6_order 48 = .ok (.ifCond .ne 6, 3) := by decide +kernel
theorem dX6_order_51 : decode cX6_order 51 = .ok (.iload 4, 2) := by decide +kernel
theorem dX6_order_53 : decode cX6_order 53 = .ok (.ireturn, 1) := by decide +kernel
theorem dX6_order_54 : decode cX6_order 54 = .ok (.iinc 2 (-1), 3) := by decide +kernel
theorem dX6_order_57 : decode cX6_order 57 = .ok (.iinc 4 1, 3) := by decide +kernel
theorem dX6_order_60 : decode cX6_order 60 = .ok (.goto (-36), 3) := by decide +kernel
theorem dX6_order_63 : decode cX6_order 63 = .ok (.iinc 3 1, 3) := by decide +kernel
theorem dX6_order_66 : decode cX6_order 66 = .ok (.goto (-51), 3) := by decide +kernel
theorem dX6_order_69 : decode cX6_order 69 = .ok (.bipush (-9), 2) := by decide +kernel
theorem dX6_order_71 : decode cX6_order 71 = .ok (.ireturn, 1) := by decide +kernel
theorem dX6_remembers_0 : decode cX6_remembers 0 = .ok (.aload_n 0, 1) := by decide +kernel
theorem dX6_remembers_1 : decode cX6_remembers 1 = .ok (.getfield 129, 3) := by decide +kernel
theorem dX6_remembers_4 : decode cX6_remembers 4 = .ok (.bipush 10, 2) := by decide +kernel
theorem dX6_remembers_6 : decode cX6_remembers 6 = .ok (.if_icmp .ne 43, 3) := by decide +kernel
theorem dX6_remembers_9 : decode cX6_remembers 9 = .ok (.iconst 0, 1) := by decide +kernel
theorem dX6_remembers_10 : decode cX6_remembers 10 = .ok (.istore_n 1, 1) := by decide +kernel
theorem dX6_remembers_11 : decode cX6_remembers 11 = .ok (.iload_n 1, 1) := by decide +kernel
theorem dX6_remembers_12 : decode cX6_remembers 12 = .ok (.sipush 234, 3) := by decide +kernel
theorem dX6_remembers_15 : decode cX6_remembers 15 = .ok (.if_icmp .ge 24, 3) := by decide +kernel
theorem dX6_remembers_18 : decode cX6_remembers 18 = .ok (.aload_n 0, 1) := by decide +kernel
theorem dX6_remembers_19 : decode cX6_remembers 19 = .ok (.getfield 32, 3) := by decide +kernel
theorem dX6_remembers_22 : decode cX6_remembers 22 = .ok (.iload_n 1, 1) := by decide +kernel
theorem dX6_remembers_23 : decode cX6_remembers 23 = .ok (.aload_n 0, 1) := by decide +kernel
theorem dX6_remembers_24 : decode cX6_remembers 24 = .ok (.getfield 32, 3) := by decide +kernel
theorem dX6_remembers_27 : decode cX6_remembers 27 = .ok (.iload_n 1, 1) := by decide +kernel
theorem dX6_remembers_28 : decode cX6_remembers 28 = .ok (.bipush 26, 2) := by decide +kernel
theorem dX6_remembers_30 : decode cX6_remembers 30 = .ok (.iadd, 1) := by decide +kernel
theorem dX6_remembers_31 : decode cX6_remembers 31 = .ok (.iaload, 1) := by decide +kernel
theorem dX6_remembers_32 : decode cX6_remembers 32 = .ok (.iastore, 1) := by decide +kernel
theorem dX6_remembers_33 : decode cX6_remembers 33 = .ok (.iinc 1 1, 3) := by decide +kernel
theorem dX6_remembers_36 : decode cX6_remembers 36 = .ok (.goto (-25), 3) := by decide +kernel
theorem dX6_remembers_39 : decode cX6_remembers 39 = .ok (.aload_n 0, 1) := by decide +kernel
theorem dX6_remembers_40 : decode cX6_remembers 40 = .ok (.dup, 1) := by decide +kernel
theorem dX6_remembers_41 : decode cX6_remembers 41 = .ok (.getfield 129, 3) := by decide +kernel
theorem dX6_remembers_44 : decode cX6_remembers 44 = .ok (.iconst 1, 1) := by decide +kernel
theorem dX6_remembers_45 : decode cX6_remembers 45 = .ok (.isub, 1) := by decide +kernel
theorem dX6_remembers_46 : decode cX6_remembers 46 = .ok (.putfield 129, 3) := by decide +kernel
theorem dX6_remembers_49 : decode cX6_remembers 49 = .ok (.aload_n 0, 1) := by decide +kernel
theorem dX6_remembers_50 : decode cX6_remembers 50 = .ok (.getfield 32, 3) := by decide +kernel
theorem dX6_remembers_53 : decode cX6_remembers 53 = .ok (.bipush 26, 2) := by decide +kernel
theorem dX6_remembers_55 : decode cX6_remembers 55 = .ok (.aload_n 0, 1) := by decide +kernel
theorem dX6_remembers_56 : decode cX6_remembers 56 = .ok (.getfield 129, 3) := by decide +kernel
theorem dX6_remembers_59 : decode cX6_remembers 59 = .ok (.imul, 1) := by decide +kernel
theorem dX6_remembers_60 : decode cX6_remembers 60 = .ok (.aload_n 0, 1) := by decide +kernel
theorem dX6_remembers_61 : decode cX6_remembers 61 = .ok (.getfield 29, 3) := by decide +kernel
theorem dX6_remembers_64 : decode cX6_remembers 64 = .ok (.iconst 0, 1) := by decide +kernel
theorem dX6_remembers_65 : decode cX6_remembers 65 = .ok (.invokestatic 135, 3) := by decide +kernel
theorem dX6_remembers_68 : decode cX6_remembers 68 = .ok (.aload_n 0, 1) := by decide +kernel
theorem dX6_remembers_69 : decode cX6_remembers 69 = .ok (.dup, 1) := by decide +kernel
theorem dX6_remembers_70 : decode cX6_remembers 70 = .ok (.getfield 129, 3) := by decide +kernel
theorem dX6_remembers_73 : decode cX6_remembers 73 = .ok (.iconst 1, 1) := by decide +kernel
theorem dX6_remembers_74 : decode cX6_remembers 74 = .ok (.iadd, 1) := by decide +kernel
theorem dX6_remembers_75 : decode cX6_remembers 75 = .ok (.putfield 129, 3) := by decide +kernel
theorem dX6_remembers_78 : decode cX6_remembers 78 = .ok (.return_, 1) := by decide +kernel
theorem dX6_drops_0 : decode cX6_drops 0 = .ok (.aload_n 0, 1) := by decide +kernel
theorem dX6_drops_1 : decode cX6_drops 1 = .ok (.iload_n 1, 1) := by decide +kernel
theorem dX6_drops_2 : decode cX6_drops 2 = .ok (.invokevirtual 164, 3) := by decide +kernel
theorem dX6_drops_5 : decode cX6_drops 5 = .ok (.ifCond .ne 5, 3) := by decide +kernel
theorem dX6_drops_8 : decode cX6_drops 8 = .ok (.iconst (-1), 1) := by decide +kernel
theorem dX6_drops_9 : decode cX6_drops 9 = .ok (.ireturn, 1) := by decide +kernel
theorem dX6_drops_10 : decode cX6_drops 10 = .ok (.aload_n 0, 1) := by decide +kernel
theorem dX6_drops_11 : decode cX6_drops 11 = .ok (.getfield 29, 3) := by decide +kernel
theorem dX6_drops_14 : decode cX6_drops 14 = .ok (.iconst 2, 1) := by decide +kernel
theorem dX6_drops_15 : decode cX6_drops 15 = .ok (.iload_n 1, 1) := by decide +kernel
theorem dX6_drops_16 : decode cX6_drops 16 = .ok (.iadd, 1) := by decide +kernel
theorem dX6_drops_17 : decode cX6_drops 17 = .ok (.iaload, 1) := by decide +kernel
theorem dX6_drops_18 : decode cX6_drops 18 = .ok (.bipush (-9), 2) := by decide +kernel
theorem dX6_drops_20 : decode cX6_drops 20 = .ok (.if_icmp .eq 6, 3) := by decide +kernel
theorem dX6_drops_23 : decode cX6_drops 23 = .ok (.bipush (-2), 2) := by decide +kernel
theorem dX6_drops_25 : decode cX6_drops 25 = .ok (.ireturn, 1) := by decide +kernel
theorem dX6_drops_26 : decode cX6_drops 26 = .ok (.aload_n 0, 1) := by decide +kernel
theorem dX6_drops_27 : decode cX6_drops 27 = .ok (.invokevirtual 174, 3) := by decide +kernel
theorem dX6_drops_30 : decode cX6_drops 30 = .ok (.aload_n 0, 1) := by decide +kernel
theorem dX6_drops_31 : decode cX6_drops 31 = .ok (.getfield 29, 3) := by decide +kernel
theorem dX6_drops_34 : decode cX6_drops 34 = .ok (.iconst 2, 1) := by decide +kernel
theorem dX6_drops_35 : decode cX6_drops 35 = .ok (.iload_n 1, 1) := by decide +kernel
theorem dX6_drops_36 : decode cX6_drops 36 = .ok (.iadd, 1) := by decide +kernel
theorem dX6_drops_37 : decode cX6_drops 37 = .ok (.bipush 10, 2) := by decide +kernel
theorem dX6_drops_39 : decode cX6_drops 39 = .ok (.iastore, 1) := by decide +kernel
theorem dX6_drops_40 : decode cX6_drops 40 = .ok (.aload_n 0, 1) := by decide +kernel
theorem dX6_drops_41 : decode cX6_drops 41 = .ok (.getfield 60, 3) := by decide +kernel
theorem dX6_drops_44 : decode cX6_drops 44 = .ok (.aload_n 0, 1) := by decide +kernel
theorem dX6_drops_45 : decode cX6_drops 45 = .ok (.invokevirtual 177, 3) := by decide +kernel
theorem dX6_drops_48 : decode cX6_drops 48 = .ok (.invokestatic 180, 3) := by decide +kernel
theorem dX6_drops_51 : decode cX6_drops 51 = .ok (.isub, 1) := by decide +kernel
theorem dX6_drops_52 : decode cX6_drops 52 = .ok (.ireturn, 1) := by decide +kernel
theorem dX6_minute_0 : decode cX6_minute 0 = .ok (.aload_n 0, 1) := by decide +kernel
theorem dX6_minute_1 : decode cX6_minute 1 = .ok (.getfield 29, 3) := by decide +kernel
theorem dX6_minute_4 : decode cX6_minute 4 = .ok (.iconst 0, 1) := by decide +kernel
theorem dX6_minute_5 : decode cX6_minute 5 = .ok (.iaload, 1) := by decide +kernel
theorem dX6_minute_6 : decode cX6_minute 6 = .ok (.bipush 99, 2) := by decide +kernel
theorem dX6_minute_8 : decode cX6_minute 8 = .ok (.if_icmp .ne 6, 3) := by decide +kernel
theorem dX6_minute_11 : decode cX6_minute 11 = .ok (.bipush (-2), 2) := by decide +kernel
theorem dX6_minute_13 : decode cX6_minute 13 = .ok (.ireturn, 1) := by decide +kernel
theorem dX6_minute_14 : decode cX6_minute 14 = .ok (.aload_n 0, 1) := by decide +kernel
theorem dX6_minute_15 : decode cX6_minute 15 = .ok (.invokevirtual 174, 3) := by decide +kernel
theorem dX6_minute_18 : decode cX6_minute 18 = .ok (.aload_n 0, 1) := by decide +kernel
theorem dX6_minute_19 : decode cX6_minute 19 = .ok (.invokevirtual 158, 3) := by decide +kernel
theorem dX6_minute_22 : decode cX6_minute 22 = .ok (.aload_n 0, 1) := by decide +kernel
theorem dX6_minute_23 : decode cX6_minute 23 = .ok (.invokevirtual 183, 3) := by decide +kernel
theorem dX6_minute_26 : decode cX6_minute 26 = .ok (.aload_n 0, 1) := by decide +kernel
theorem dX6_minute_27 : decode cX6_minute 27 = .ok (.getfield 29, 3) := by decide +kernel
theorem dX6_minute_30 : decode cX6_minute 30 = .ok (.iconst 0, 1) := by decide +kernel
theorem dX6_minute_31 : decode cX6_minute 31 = .ok (.aload_n 0, 1) := by decide +kernel
theorem dX6_minute_32 : decode cX6_minute 32 = .ok (.getfield 51, 3) := by decide +kernel
theorem dX6_minute_35 : decode cX6_minute 35 = .ok (.iconst 0, 1) := by decide +kernel
theorem dX6_minute_36 : decode cX6_minute 36 = .ok (.invokestatic 135, 3) := by decide +kernel
theorem dX6_minute_39 : decode cX6_minute 39 = .ok (.aload_n 0, 1) := by decide +kernel
theorem dX6_minute_40 : decode cX6_minute 40 = .ok (.iconst 0, 1) := by decide +kernel
theorem dX6_minute_41 : decode cX6_minute 41 = .ok (.invokevirtual 161, 3) := by decide +kernel
theorem dX6_minute_44 : decode cX6_minute 44 = .ok (.invokestatic 180, 3) := by decide +kernel
theorem dX6_minute_47 : decode cX6_minute 47 = .ok (.ireturn, 1) := by decide +kernel
theorem dX6_heats_0 : decode cX6_heats 0 = .ok (.iload_n 1, 1) := by decide +kernel
theorem dX6_heats_1 : decode cX6_heats 1 = .ok (.iconst 0, 1) := by decide +kernel
theorem dX6_heats_2 : decode cX6_heats 2 = .ok (.bipush 9, 2) := by decide +kernel
theorem dX6_heats_4 : decode cX6_heats 4 = .ok (.invokestatic 63, 3) := by decide +kernel
theorem dX6_heats_7 : decode cX6_heats 7 = .ok (.ifCond .ne 5, 3) := by decide +kernel
theorem dX6_heats_10 : decode cX6_heats 10 = .ok (.iconst (-1), 1) := by decide +kernel
theorem dX6_heats_11 : decode cX6_heats 11 = .ok (.ireturn, 1) := by decide +kernel
theorem dX6_heats_12 : decode cX6_heats 12 = .ok (.aload_n 0, 1) := by decide +kernel
theorem dX6_heats_13 : decode cX6_heats 13 = .ok (.getfield 29, 3) := by decide +kernel
theorem dX6_heats_16 : decode cX6_heats 16 = .ok (.iconst 1, 1) := by decide +kernel
theorem dX6_heats_17 : decode cX6_heats 17 = .ok (.iaload, 1) := by decide +kernel
theorem dX6_heats_18 : decode cX6_heats 18 = .ok (.istore_n 2, 1) := by decide +kernel
theorem dX6_heats_19 : decode cX6_heats 19 = .ok (.iload_n 2, 1) := by decide +kernel
theorem dX6_heats_20 : decode cX6_heats 20 = .ok (.iload_n 1, 1) := by decide +kernel
theorem dX6_heats_21 : decode cX6_heats 21 = .ok (.if_icmp .ne 6, 3) := by decide +kernel
theorem dX6_heats_24 : decode cX6_heats 24 = .ok (.bipush (-2), 2) := by decide +kernel
theorem dX6_heats_26 : decode cX6_heats 26 = .ok (.ireturn, 1) := by decide +kernel
theorem dX6_heats_27 : decode cX6_heats 27 = .ok (.aload_n 0, 1) := by decide +kernel
theorem dX6_heats_28 : decode cX6_heats 28 = .ok (.invokevirtual 174, 3) := by decide +kernel
theorem dX6_heats_31 : decode cX6_heats 31 = .ok (.aload_n 0, 1) := by decide +kernel
theorem dX6_heats_32 : decode cX6_heats 32 = .ok (.getfield 29, 3) := by decide +kernel
theorem dX6_heats_35 : decode cX6_heats 35 = .ok (.iconst 1, 1) := by decide +kernel
theorem dX6_heats_36 : decode cX6_heats 36 = .ok (.iload_n 1, 1) := by decide +kernel
theorem dX6_heats_37 : decode cX6_heats 37 = .ok (.iastore, 1) := by decide +kernel
theorem dX6_heats_38 : decode cX6_heats 38 = .ok (.iload_n 2, 1) := by decide +kernel
theorem dX6_heats_39 : decode cX6_heats 39 = .ok (.ireturn, 1) := by decide +kernel
theorem dX6_skewers_0 : decode cX6_skewers 0 = .ok (.aload_n 0, 1) := by decide +kernel
theorem dX6_skewers_1 : decode cX6_skewers 1 = .ok (.iload_n 1, 1) := by decide +kernel
theorem dX6_skewers_2 : decode cX6_skewers 2 = .ok (.invokevirtual 164, 3) := by decide +kernel
theorem dX6_skewers_5 : decode cX6_skewers 5 = .ok (.ifCond .ne 5, 3) := by decide +kernel
theorem dX6_skewers_8 : decode cX6_skewers 8 = .ok (.iconst (-1), 1) := by decide +kernel
theorem dX6_skewers_9 : decode cX6_skewers 9 = .ok (.ireturn, 1) := by decide +kernel
theorem dX6_skewers_10 : decode cX6_skewers 10 = .ok (.aload_n 0, 1) := by decide +kernel
theorem dX6_skewers_11 : decode cX6_skewers 11 = .ok (.getfield 29, 3) := by decide +kernel
theorem dX6_skewers_14 : decode cX6_skewers 14 = .ok (.iconst 2, 1) := by decide +kernel
theorem dX6_skewers_15 : decode cX6_skewers 15 = .ok (.iload_n 1, 1) := by decide +kernel
theorem dX6_skewers_16 : decode cX6_skewers 16 = .ok (.iadd, 1) := by decide +kernel
theorem dX6_skewers_17 : decode cX6_skewers 17 = .ok (.iaload, 1) := by decide +kernel
theorem dX6_skewers_18 : decode cX6_skewers 18 = .ok (.bipush (-9), 2) := by decide +kernel
theorem dX6_skewers_20 : decode cX6_skewers 20 = .ok (.if_icmp .ne 6, 3) := by decide +kernel
theorem dX6_skewers_23 : decode cX6_skewers 23 = .ok (.bipush (-2), 2) := by decide +kernel
theorem dX6_skewers_25 : decode cX6_skewers 25 = .ok (.ireturn, 1) := by decide +kernel
theorem dX6_skewers_26 : decode cX6_skewers 26 = .ok (.aload_n 0, 1) := by decide +kernel
theorem dX6_skewers_27 : decode cX6_skewers 27 = .ok (.invokevirtual 174, 3) := by decide +kernel
theorem dX6_skewers_30 : decode cX6_skewers 30 = .ok (.aload_n 0, 1) := by decide +kernel
theorem dX6_skewers_31 : decode cX6_skewers 31 = .ok (.getfield 29, 3) := by decide +kernel
theorem dX6_skewers_34 : decode cX6_skewers 34 = .ok (.bipush 14, 2) := by decide +kernel
theorem dX6_skewers_36 : decode cX6_skewers 36 = .ok (.iload_n 1, 1) := by decide +kernel
theorem dX6_skewers_37 : decode cX6_skewers 37 = .ok (.iadd, 1) := by decide +kernel
theorem dX6_skewers_38 : decode cX6_skewers 38 = .ok (.iaload, 1) := by decide +kernel
theorem dX6_skewers_39 : decode cX6_skewers 39 = .ok (.istore_n 2, 1) := by decide +kernel
theorem dX6_skewers_40 : decode cX6_skewers 40 = .ok (.iconst 0, 1) := by decide +kernel
theorem dX6_skewers_41 : decode cX6_skewers 41 = .ok (.istore_n 3, 1) := by decide +kernel
theorem dX6_skewers_42 : decode cX6_skewers 42 = .ok (.iload_n 3, 1) := by decide +kernel
theorem dX6_skewers_43 : decode cX6_skewers 43 = .ok (.aload_n 0, 1) := by decide +kernel
theorem dX6_skewers_44 : decode cX6_skewers 44 = .ok (.getfield 60, 3) := by decide +kernel
theorem dX6_skewers_47 : decode cX6_skewers 47 = .ok (.if_icmp .ge 41, 3) := by decide +kernel
theorem dX6_skewers_50 : decode cX6_skewers 50 = .ok (.aload_n 0, 1) := by decide +kernel
theorem dX6_skewers_51 : decode cX6_skewers 51 = .ok (.getfield 29, 3) := by decide +kernel
theorem dX6_skewers_54 : decode cX6_skewers 54 = .ok (.bipush 14, 2) := by decide +kernel
theorem dX6_skewers_56 : decode cX6_skewers 56 = .ok (.iload_n 3, 1) := by decide +kernel
theorem dX6_skewers_57 : decode cX6_skewers 57 = .ok (.iadd, 1) := by decide +kernel
theorem dX6_skewers_58 : decode cX6_skewers 58 = .ok (.iload_n 2, 1) := by decide +kernel
theorem dX6_skewers_59 : decode cX6_skewers 59 = .ok (.iload_n 3, 1) := by decide +kernel
theorem dX6_skewers_60 : decode cX6_skewers 60 = .ok (.invokestatic 139, 3) := by decide +kernel
theorem dX6_skewers_63 : decode cX6_skewers 63 = .ok (.ifCond .eq 9, 3) := by decide +kernel
theorem dX6_skewers_66 : decode cX6_skewers 66 = .ok (.iconst 1, 1) := by decide +kernel
theorem dX6_skewers_67 : decode cX6_skewers 67 = .ok (.iload_n 3, 1) := by decide +kernel
theorem dX6_skewers_68 : decode cX6_skewers 68 = .ok (.ishl, 1) := by decide +kernel
theorem dX6_skewers_69 : decode cX6_skewers 69 = .ok (.goto 12, 3) := by decide +kernel
theorem dX6_skewers_72 : decode cX6_skewers 72 = .ok (.aload_n 0, 1) := by decide +kernel
theorem dX6_skewers_73 : decode cX6_skewers 73 = .ok (.getfield 29, 3) := by decide +kernel
theorem dX6_skewers_76 : decode cX6_skewers 76 = .ok (.bipush 14, 2) := by decide +kernel
theorem dX6_skewers_78 : decode cX6_skewers 78 = .ok (.iload_n 3, 1) := by decide +kernel
theorem dX6_skewers_79 : decode cX6_skewers 79 = .ok (.iadd, 1) := by decide +kernel
theorem dX6_skewers_80 : decode cX6_skewers 80 = .ok (.iaload, 1) := by decide +kernel
theorem dX6_skewers_81 : decode cX6_skewers 81 = .ok (.iastore, 1) := by decide +kernel
theorem dX6_skewers_82 : decode cX6_skewers 82 = .ok (.iinc 3 1, 3) := by decide +kernel
theorem dX6_skewers_85 : decode cX6_skewers 85 = .ok (.goto (-43), 3) := by decide +kernel
theorem dX6_skewers_88 : decode cX6_skewers 88 = .ok (.aload_n 0, 1) := by decide +kernel
theorem dX6_skewers_89 : decode cX6_skewers 89 = .ok (.getfield 29, 3) := by decide +kernel
theorem dX6_skewers_92 : decode cX6_skewers 92 = .ok (.bipush 8, 2) := by decide +kernel
theorem dX6_skewers_94 : decode cX6_skewers 94 = .ok (.iload_n 1, 1) := by decide +kernel
theorem dX6_skewers_95 : decode cX6_skewers 95 = .ok (.iadd, 1) := by decide +kernel
theorem dX6_skewers_96 : decode cX6_skewers 96 = .ok (.aload_n 0, 1) := by decide +kernel
theorem dX6_skewers_97 : decode cX6_skewers 97 = .ok (.getfield 29, 3) := by decide +kernel
theorem dX6_skewers_100 : decode cX6_skewers 100 = .ok (.bipush 8, 2) := by decide +kernel
theorem dX6_skewers_102 : decode cX6_skewers 102 = .ok (.iload_n 1, 1) := by decide +kernel
theorem dX6_skewers_103 : decode cX6_skewers 103 = .ok (.iadd, 1) := by decide +kernel
theorem dX6_skewers_104 : decode cX6_skewers 104 = .ok (.iaload, 1) := by decide +kernel
theorem dX6_skewers_105 : decode cX6_skewers 105 = .ok (.iconst 4, 1) := by decide +kernel
theorem dX6_skewers_106 : decode cX6_skewers 106 = .ok (.if_icmp .ge 7, 3) := by decide +kernel
theorem dX6_skewers_109 : decode cX6_skewers 109 = .ok (.iconst 1, 1) := by decide +kernel
theorem dX6_skewers_110 : decode cX6_skewers 110 = .ok (.goto 14, 3) := by decide +kernel
theorem dX6_skewers_113 : decode cX6_skewers 113 = .ok (.aload_n 0, 1) := by decide +kernel
theorem dX6_skewers_114 : decode cX6_skewers 114 = .ok (.getfield 29, 3) := by decide +kernel
theorem dX6_skewers_117 : decode cX6_skewers 117 = .ok (.bipush 8, 2) := by decide +kernel
theorem dX6_skewers_119 : decode cX6_skewers 119 = .ok (.iload_n 1, 1) := by decide +kernel
theorem dX6_skewers_120 : decode cX6_skewers 120 = .ok (.iadd, 1) := by decide +kernel
theorem dX6_skewers_121 : decode cX6_skewers 121 = .ok (.iaload, 1) := by decide +kernel
theorem dX6_skewers_122 : decode cX6_skewers 122 = .ok (.iconst 2, 1) := by decide +kernel
theorem dX6_skewers_123 : decode cX6_skewers 123 = .ok (.idiv, 1) := by decide +kernel
theorem dX6_skewers_124 : decode cX6_skewers 124 = .ok (.iastore, 1) := by decide +kernel
theorem dX6_skewers_125 : decode cX6_skewers 125 = .ok (.aload_n 0, 1) := by decide +kernel
theorem dX6_skewers_126 : decode cX6_skewers 126 = .ok (.getfield 29, 3) := by decide +kernel
theorem dX6_skewers_129 : decode cX6_skewers 129 = .ok (.bipush 8, 2) := by decide +kernel
theorem dX6_skewers_131 : decode cX6_skewers 131 = .ok (.iload_n 1, 1) := by decide +kernel
theorem dX6_skewers_132 : decode cX6_skewers 132 = .ok (.iadd, 1) := by decide +kernel
theorem dX6_skewers_133 : decode cX6_skewers 133 = .ok (.iaload, 1) := by decide +kernel
theorem dX6_skewers_134 : decode cX6_skewers 134 = .ok (.ireturn, 1) := by decide +kernel
theorem dX6_dips_0 : decode cX6_dips 0 = .ok (.aload_n 0, 1) := by decide +kernel
theorem dX6_dips_1 : decode cX6_dips 1 = .ok (.iload_n 1, 1) := by decide +kernel
theorem dX6_dips_2 : decode cX6_dips 2 = .ok (.invokevirtual 164, 3) := by decide +kernel
theorem dX6_dips_5 : decode cX6_dips 5 = .ok (.ifCond .ne 5, 3) := by decide +kernel
theorem dX6_dips_8 : decode cX6_dips 8 = .ok (.iconst (-1), 1) := by decide +kernel
theorem dX6_dips_9 : decode cX6_dips 9 = .ok (.ireturn, 1) := by decide +kernel
theorem dX6_dips_10 : decode cX6_dips 10 = .ok (.aload_n 0, 1) := by decide +kernel
theorem dX6_dips_11 : decode cX6_dips 11 = .ok (.getfield 29, 3) := by decide +kernel
theorem dX6_dips_14 : decode cX6_dips 14 = .ok (.iconst 2, 1) := by decide +kernel
theorem dX6_dips_15 : decode cX6_dips 15 = .ok (.iload_n 1, 1) := by decide +kernel
theorem dX6_dips_16 : decode cX6_dips 16 = .ok (.iadd, 1) := by decide +kernel
theorem dX6_dips_17 : decode cX6_dips 17 = .ok (.iaload, 1) := by decide +kernel
theorem dX6_dips_18 : decode cX6_dips 18 = .ok (.ifCond .eq 6, 3) := by decide +kernel
theorem dX6_dips_21 : decode cX6_dips 21 = .ok (.bipush (-2), 2) := by decide +kernel
theorem dX6_dips_23 : decode cX6_dips 23 = .ok (.ireturn, 1) := by decide +kernel
theorem dX6_dips_24 : decode cX6_dips 24 = .ok (.aload_n 0, 1) := by decide +kernel
theorem dX6_dips_25 : decode cX6_dips 25 = .ok (.invokevirtual 174, 3) := by decide +kernel
theorem dX6_dips_28 : decode cX6_dips 28 = .ok (.iconst 0, 1) := by decide +kernel
theorem dX6_dips_29 : decode cX6_dips 29 = .ok (.istore_n 2, 1) := by decide +kernel
theorem dX6_dips_30 : decode cX6_dips 30 = .ok (.iload_n 2, 1) := by decide +kernel
theorem dX6_dips_31 : decode cX6_dips 31 = .ok (.aload_n 0, 1) := by decide +kernel
theorem dX6_dips_32 : decode cX6_dips 32 = .ok (.getfield 60, 3) := by decide +kernel
theorem dX6_dips_35 : decode cX6_dips 35 = .ok (.if_icmp .ge 26, 3) := by decide +kernel
theorem dX6_dips_38 : decode cX6_dips 38 = .ok (.aload_n 0, 1) := by decide +kernel
theorem dX6_dips_39 : decode cX6_dips 39 = .ok (.getfield 29, 3) := by decide +kernel
theorem dX6_dips_42 : decode cX6_dips 42 = .ok (.bipush 14, 2) := by decide +kernel
theorem dX6_dips_44 : decode cX6_dips 44 = .ok (.iload_n 2, 1) := by decide +kernel
theorem dX6_dips_45 : decode cX6_dips 45 = .ok (.iadd, 1) := by decide +kernel
theorem dX6_dips_46 : decode cX6_dips 46 = .ok (.dup2, 1) := by decide +kernel
theorem dX6_dips_47 : decode cX6_dips 47 = .ok (.iaload, 1) := by decide +kernel
theorem dX6_dips_48 : decode cX6_dips 48 = .ok (.iconst 1, 1) := by decide +kernel
theorem dX6_dips_49 : decode cX6_dips 49 = .ok (.iload_n 1, 1) := by decide +kernel
theorem dX6_dips_50 : decode cX6_dips 50 = .ok (.ishl, 1) := by decide +kernel
theorem dX6_dips_51 : decode cX6_dips 51 = .ok (.iconst (-1), 1) := by decide +kernel
theorem dX6_dips_52 : decode cX6_dips 52 = .ok (.ixor, 1) := by decide +kernel
theorem dX6_dips_53 : decode cX6_dips 53 = .ok (.iand, 1) := by decide +kernel
theorem dX6_dips_54 : decode cX6_dips 54 = .ok (.iastore, 1) := by decide +kernel
theorem dX6_dips_55 : decode cX6_dips 55 = .ok (.iinc 2 1, 3) := by decide +kernel
theorem dX6_dips_58 : decode cX6_dips 58 = .ok (.goto (-28), 3) := by decide +kernel
theorem dX6_dips_61 : decode cX6_dips 61 = .ok (.aload_n 0, 1) := by decide +kernel
theorem dX6_dips_62 : decode cX6_dips 62 = .ok (.getfield 29, 3) := by decide +kernel
theorem dX6_dips_65 : decode cX6_dips 65 = .ok (.bipush 14, 2) := by decide +kernel
theorem dX6_dips_67 : decode cX6_dips 67 = .ok (.iload_n 1, 1) := by decide +kernel
theorem dX6_dips_68 : decode cX6_dips 68 = .ok (.iadd, 1) := by decide +kernel
theorem dX6_dips_69 : decode cX6_dips 69 = .ok (.iconst 1, 1) := by decide +kernel
theorem dX6_dips_70 : decode cX6_dips 70 = .ok (.iload_n 1, 1) := by decide +kernel
theorem dX6_dips_71 : decode cX6_dips 71 = .ok (.ishl, 1) := by decide +kernel
theorem dX6_dips_72 : decode cX6_dips 72 = .ok (.iastore, 1) := by decide +kernel
theorem dX6_dips_73 : decode cX6_dips 73 = .ok (.aload_n 0, 1) := by decide +kernel
theorem dX6_dips_74 : decode cX6_dips 74 = .ok (.getfield 29, 3) := by decide +kernel
theorem dX6_dips_77 : decode cX6_dips 77 = .ok (.iconst 2, 1) := by decide +kernel
theorem dX6_dips_78 : decode cX6_dips 78 = .ok (.iload_n 1, 1) := by decide +kernel
theorem dX6_dips_79 : decode cX6_dips 79 = .ok (.iadd, 1) := by decide +kernel
theorem dX6_dips_80 : decode cX6_dips 80 = .ok (.bipush (-9), 2) := by decide +kernel
theorem dX6_dips_82 : decode cX6_dips 82 = .ok (.iastore, 1) := by decide +kernel
theorem dX6_dips_83 : decode cX6_dips 83 = .ok (.aload_n 0, 1) := by decide +kernel
theorem dX6_dips_84 : decode cX6_dips 84 = .ok (.invokevirtual 177, 3) := by decide +kernel
theorem dX6_dips_87 : decode cX6_dips 87 = .ok (.invokestatic 180, 3) := by decide +kernel
theorem dX6_dips_90 : decode cX6_dips 90 = .ok (.ireturn, 1) := by decide +kernel
theorem dX6_undo_0 : decode cX6_undo 0 = .ok (.aload_n 0, 1) := by decide +kernel
theorem dX6_undo_1 : decode cX6_undo 1 = .ok (.getfield 129, 3) := by decide +kernel
theorem dX6_undo_4 : decode cX6_undo 4 = .ok (.ifCond .ne 6, 3) := by decide +kernel
theorem dX6_undo_7 : decode cX6_undo 7 = .ok (.bipush (-2), 2) := by decide +kernel
theorem dX6_undo_9 : decode cX6_undo 9 = .ok (.ireturn, 1) := by decide +kernel
theorem dX6_undo_10 : decode cX6_undo 10 = .ok (.aload_n 0, 1) := by decide +kernel
theorem dX6_undo_11 : decode cX6_undo 11 = .ok (.dup, 1) := by decide +kernel
theorem dX6_undo_12 : decode cX6_undo 12 = .ok (.getfield 129, 3) := by decide +kernel
theorem dX6_undo_15 : decode cX6_undo 15 = .ok (.iconst 1, 1) := by decide +kernel
theorem dX6_undo_16 : decode cX6_undo 16 = .ok (.isub, 1) := by decide +kernel
theorem dX6_undo_17 : decode cX6_undo 17 = .ok (.putfield 129, 3) := by decide +kernel
theorem dX6_undo_20 : decode cX6_undo 20 = .ok (.aload_n 0, 1) := by decide +kernel
theorem dX6_undo_21 : decode cX6_undo 21 = .ok (.getfield 29, 3) := by decide +kernel
theorem dX6_undo_24 : decode cX6_undo 24 = .ok (.iconst 0, 1) := by decide +kernel
theorem dX6_undo_25 : decode cX6_undo 25 = .ok (.aload_n 0, 1) := by decide +kernel
theorem dX6_undo_26 : decode cX6_undo 26 = .ok (.getfield 32, 3) := by decide +kernel
theorem dX6_undo_29 : decode cX6_undo 29 = .ok (.bipush 26, 2) := by decide +kernel
theorem dX6_undo_31 : decode cX6_undo 31 = .ok (.aload_n 0, 1) := by decide +kernel
theorem dX6_undo_32 : decode cX6_undo 32 = .ok (.getfield 129, 3) := by decide +kernel
theorem dX6_undo_35 : decode cX6_undo 35 = .ok (.imul, 1) := by decide +kernel
theorem dX6_undo_36 : decode cX6_undo 36 = .ok (.invokestatic 135, 3) := by decide +kernel
theorem dX6_undo_39 : decode cX6_undo 39 = .ok (.aload_n 0, 1) := by decide +kernel
theorem dX6_undo_40 : decode cX6_undo 40 = .ok (.getfield 129, 3) := by decide +kernel
theorem dX6_undo_43 : decode cX6_undo 43 = .ok (.ireturn, 1) := by decide +kernel
theorem dX6_deep_0 : decode cX6_deep 0 = .ok (.aload_n 0, 1) := by decide +kernel
theorem dX6_deep_1 : decode cX6_deep 1 = .ok (.iload_n 1, 1) := by decide +kernel
theorem dX6_deep_2 : decode cX6_deep 2 = .ok (.invokevirtual 164, 3) := by decide +kernel
theorem dX6_deep_5 : decode cX6_deep 5 = .ok (.ifCond .eq 13, 3) := by decide +kernel
theorem dX6_deep_8 : decode cX6_deep 8 = .ok (.iload_n 2, 1) := by decide +kernel
theorem dX6_deep_9 : decode cX6_deep 9 = .ok (.iconst 0, 1) := by decide +kernel
theorem dX6_deep_10 : decode cX6_deep 10 = .ok (.bipush 40, 2) := by decide +kernel
theorem dX6_deep_12 : decode cX6_deep 12 = .ok (.invokestatic 63, 3) := by decide +kernel
theorem dX6_deep_15 : decode cX6_deep 15 = .ok (.ifCond .ne 5, 3) := by decide +kernel
theorem dX6_deep_18 : decode cX6_deep 18 = .ok (.iconst (-1), 1) := by decide +kernel
theorem dX6_deep_19 : decode cX6_deep 19 = .ok (.ireturn, 1) := by decide +kernel
theorem dX6_deep_20 : decode cX6_deep 20 = .ok (.aload_n 0, 1) := by decide +kernel
theorem dX6_deep_21 : decode cX6_deep 21 = .ok (.invokevirtual 158, 3) := by decide +kernel
theorem dX6_deep_24 : decode cX6_deep 24 = .ok (.iconst 0, 1) := by decide +kernel
theorem dX6_deep_25 : decode cX6_deep 25 = .ok (.istore_n 3, 1) := by decide +kernel
theorem dX6_deep_26 : decode cX6_deep 26 = .ok (.iload_n 3, 1) := by decide +kernel
theorem dX6_deep_27 : decode cX6_deep 27 = .ok (.iload_n 2, 1) := by decide +kernel
theorem dX6_deep_28 : decode cX6_deep 28 = .ok (.if_icmp .ge 13, 3) := by decide +kernel
theorem dX6_deep_31 : decode cX6_deep 31 = .ok (.aload_n 0, 1) := by decide +kernel
theorem dX6_deep_32 : decode cX6_deep 32 = .ok (.invokevirtual 183, 3) := by decide +kernel
theorem dX6_deep_35 : decode cX6_deep 35 = .ok (.iinc 3 1, 3) := by decide +kernel
theorem dX6_deep_38 : decode cX6_deep 38 = .ok (.goto (-12), 3) := by decide +kernel
theorem dX6_deep_41 : decode cX6_deep 41 = .ok (.aload_n 0, 1) := by decide +kernel
theorem dX6_deep_42 : decode cX6_deep 42 = .ok (.getfield 51, 3) := by decide +kernel
theorem dX6_deep_45 : decode cX6_deep 45 = .ok (.iconst 2, 1) := by decide +kernel
theorem dX6_deep_46 : decode cX6_deep 46 = .ok (.iload_n 1, 1) := by decide +kernel
theorem dX6_deep_47 : decode cX6_deep 47 = .ok (.iadd, 1) := by decide +kernel
theorem dX6_deep_48 : decode cX6_deep 48 = .ok (.iaload, 1) := by decide +kernel
theorem dX6_deep_49 : decode cX6_deep 49 = .ok (.ireturn, 1) := by decide +kernel
theorem dX6_topped_0 : decode cX6_topped 0 = .ok (.iconst 0, 1) := by decide +kernel
theorem dX6_topped_1 : decode cX6_topped 1 = .ok (.istore_n 3, 1) := by decide +kernel
theorem dX6_topped_2 : decode cX6_topped 2 = .ok (.iload_n 3, 1) := by decide +kernel
theorem dX6_topped_3 : decode cX6_topped 3 = .ok (.iload_n 2, 1) := by decide +kernel
theorem dX6_topped_4 : decode cX6_topped 4 = .ok (.if_icmp .gt 26, 3) := by decide +kernel
theorem dX6_topped_7 : decode cX6_topped 7 = .ok (.aload_n 0, 1) := by decide +kernel
theorem dX6_topped_8 : decode cX6_topped 8 = .ok (.getfield 51, 3) := by decide +kernel
theorem dX6_topped_11 : decode cX6_topped 11 = .ok (.iconst 2, 1) := by decide +kernel
theorem dX6_topped_12 : decode cX6_topped 12 = .ok (.iload_n 1, 1) := by decide +kernel
theorem dX6_topped_13 : decode cX6_topped 13 = .ok (.iadd, 1) := by decide +kernel
theorem dX6_topped_14 : decode cX6_topped 14 = .ok (.iaload, 1) := by decide +kernel
theorem dX6_topped_15 : decode cX6_topped 15 = .ok (.ifCond .ne 5, 3) := by decide +kernel
theorem dX6_topped_18 : decode cX6_topped 18 = .ok (.iload_n 3, 1) := by decide +kernel
theorem dX6_topped_19 : decode cX6_topped 19 = .ok (.ireturn, 1) := by decide +kernel
theorem dX6_topped_20 : decode cX6_topped 20 = .ok (.aload_n 0, 1) := by decide +kernel
theorem dX6_topped_21 : decode cX6_topped 21 = .ok (.invokevirtual 183, 3) := by decide +kernel
theorem dX6_topped_24 : decode cX6_topped 24 = .ok (.iinc 3 1, 3) := by decide +kernel
theorem dX6_topped_27 : decode cX6_topped 27 = .ok (.goto (-25), 3) := by decide +kernel
theorem dX6_topped_30 : decode cX6_topped 30 = .ok (.bipush (-9), 2) := by decide +kernel
theorem dX6_topped_32 : decode cX6_topped 32 = .ok (.ireturn, 1) := by decide +kernel
theorem dX6_when_0 : decode cX6_when 0 = .ok (.aload_n 0, 1) := by decide +kernel
theorem dX6_when_1 : decode cX6_when 1 = .ok (.iload_n 1, 1) := by decide +kernel
theorem dX6_when_2 : decode cX6_when 2 = .ok (.invokevirtual 164, 3) := by decide +kernel
theorem dX6_when_5 : decode cX6_when 5 = .ok (.ifCond .ne 5, 3) := by decide +kernel
theorem dX6_when_8 : decode cX6_when 8 = .ok (.iconst (-1), 1) := by decide +kernel
theorem dX6_when_9 : decode cX6_when 9 = .ok (.ireturn, 1) := by decide +kernel
theorem dX6_when_10 : decode cX6_when 10 = .ok (.aload_n 0, 1) := by decide +kernel
theorem dX6_when_11 : decode cX6_when 11 = .ok (.getfield 29, 3) := by decide +kernel
theorem dX6_when_14 : decode cX6_when 14 = .ok (.iconst 2, 1) := by decide +kernel
theorem dX6_when_15 : decode cX6_when 15 = .ok (.iload_n 1, 1) := by decide +kernel
theorem dX6_when_16 : decode cX6_when 16 = .ok (.iadd, 1) := by decide +kernel
theorem dX6_when_17 : decode cX6_when 17 = .ok (.iaload, 1) := by decide +kernel
theorem dX6_when_18 : decode cX6_when 18 = .ok (.bipush (-9), 2) := by decide +kernel
theorem dX6_when_20 : decode cX6_when 20 = .ok (.if_icmp .ne 6, 3) := by decide +kernel
theorem dX6_when_23 : decode cX6_when 23 = .ok (.bipush (-2), 2) := by decide +kernel
theorem dX6_when_25 : decode cX6_when 25 = .ok (.ireturn, 1) := by decide +kernel
theorem dX6_when_26 : decode cX6_when 26 = .ok (.aload_n 0, 1) := by decide +kernel
theorem dX6_when_27 : decode cX6_when 27 = .ok (.invokevirtual 158, 3) := by decide +kernel
theorem dX6_when_30 : decode cX6_when 30 = .ok (.aload_n 0, 1) := by decide +kernel
theorem dX6_when_31 : decode cX6_when 31 = .ok (.iload_n 1, 1) := by decide +kernel
theorem dX6_when_32 : decode cX6_when 32 = .ok (.bipush 40, 2) := by decide +kernel
theorem dX6_when_34 : decode cX6_when 34 = .ok (.invokevirtual 186, 3) := by decide +kernel
theorem dX6_when_37 : decode cX6_when 37 = .ok (.ireturn, 1) := by decide +kernel
theorem dX6_warm_0 : decode cX6_warm 0 = .ok (.aload_n 0, 1) := by decide +kernel
theorem dX6_warm_1 : decode cX6_warm 1 = .ok (.iload_n 1, 1) := by decide +kernel
theorem dX6_warm_2 : decode cX6_warm 2 = .ok (.invokevirtual 164, 3) := by decide +kernel
theorem dX6_warm_5 : decode cX6_warm 5 = .ok (.ifCond .eq 13, 3) := by decide +kernel
theorem dX6_warm_8 : decode cX6_warm 8 = .ok (.iload_n 2, 1) := by decide +kernel
theorem dX6_warm_9 : decode cX6_warm 9 = .ok (.iconst 1, 1) := by decide +kernel
theorem dX6_warm_10 : decode cX6_warm 10 = .ok (.bipush 40, 2) := by decide +kernel
theorem dX6_warm_12 : decode cX6_warm 12 = .ok (.invokestatic 63, 3) := by decide +kernel
theorem dX6_warm_15 : decode cX6_warm 15 = .ok (.ifCond .ne 5, 3) := by decide +kernel
theorem dX6_warm_18 : decode cX6_warm 18 = .ok (.iconst (-1), 1) := by decide +kernel
theorem dX6_warm_19 : decode cX6_warm 19 = .ok (.ireturn, 1) := by decide +kernel
theorem dX6_warm_20 : decode cX6_warm 20 = .ok (.aload_n 0, 1) := by decide +kernel
theorem dX6_warm_21 : decode cX6_warm 21 = .ok (.getfield 29, 3) := by decide +kernel
theorem dX6_warm_24 : decode cX6_warm 24 = .ok (.iconst 2, 1) := by decide +kernel
theorem dX6_warm_25 : decode cX6_warm 25 = .ok (.iload_n 1, 1) := by decide +kernel
theorem dX6_warm_26 : decode cX6_warm 26 = .ok (.iadd, 1) := by decide +kernel
theorem dX6_warm_27 : decode cX6_warm 27 = .ok (.iaload, 1) := by decide +kernel
theorem dX6_warm_28 : decode cX6_warm 28 = .ok (.bipush (-9), 2) := by decide +kernel
theorem dX6_warm_30 : decode cX6_warm 30 = .ok (.if_icmp .ne 6, 3) := by decide +kernel
theorem dX6_warm_33 : decode cX6_warm 33 = .ok (.bipush (-2), 2) := by decide +kernel
theorem dX6_warm_35 : decode cX6_warm 35 = .ok (.ireturn, 1) := by decide +kernel
theorem dX6_warm_36 : decode cX6_warm 36 = .ok (.iconst 0, 1) := by decide +kernel
theorem dX6_warm_37 : decode cX6_warm 37 = .ok (.istore_n 3, 1) := by decide +kernel
theorem dX6_warm_38 : decode cX6_warm 38 = .ok (.iload_n 3, 1) := by decide +kernel
theorem dX6_warm_39 : decode cX6_warm 39 = .ok (.bipush 9, 2) := by decide +kernel
theorem dX6_warm_41 : decode cX6_warm 41 = .ok (.if_icmp .gt 33, 3) := by decide +kernel
theorem dX6_warm_44 : decode cX6_warm 44 = .ok (.aload_n 0, 1) := by decide +kernel
theorem dX6_warm_45 : decode cX6_warm 45 = .ok (.invokevirtual 158, 3) := by decide +kernel
theorem dX6_warm_48 : decode cX6_warm 48 = .ok (.aload_n 0, 1) := by decide +kernel
theorem dX6_warm_49 : decode cX6_warm 49 = .ok (.getfield 51, 3) := by decide +kernel
theorem dX6_warm_52 : decode cX6_warm 52 = .ok (.iconst 1, 1) := by decide +kernel
theorem dX6_warm_53 : decode cX6_warm 53 = .ok (.iload_n 3, 1) := by decide +kernel
theorem dX6_warm_54 : decode cX6_warm 54 = .ok (.iastore, 1) := by decide +kernel
theorem dX6_warm_55 : decode cX6_warm 55 = .ok (.aload_n 0, 1) := by decide +kernel
theorem dX6_warm_56 : decode cX6_warm 56 = .ok (.iload_n 1, 1) := by decide +kernel
theorem dX6_warm_57 : decode cX6_warm 57 = .ok (.iload_n 2, 1) := by decide +kernel
theorem dX6_warm_58 : decode cX6_warm 58 = .ok (.invokevirtual 186, 3) := by decide +kernel
theorem dX6_warm_61 : decode cX6_warm 61 = .ok (.bipush (-9), 2) := by decide +kernel
theorem dX6_warm_63 : decode cX6_warm 63 = .ok (.if_icmp .eq 5, 3) := by decide +kernel
theorem dX6_warm_66 : decode cX6_warm 66 = .ok (.iload_n 3, 1) := by decide +kernel
theorem dX6_warm_67 : decode cX6_warm 67 = .ok (.ireturn, 1) := by decide +kernel
theorem dX6_warm_68 : decode cX6_warm 68 = .ok (.iinc 3 1, 3) := by decide +kernel
theorem dX6_warm_71 : decode cX6_warm 71 = .ok (.goto (-33), 3) := by decide +kernel
theorem dX6_warm_74 : decode cX6_warm 74 = .ok (.bipush (-9), 2) := by decide +kernel
theorem dX6_warm_76 : decode cX6_warm 76 = .ok (.ireturn, 1) := by decide +kernel
theorem dX6_isFirst_0 : decode cX6_isFirst 0 = .ok (.iconst 0, 1) := by decide +kernel
theorem dX6_isFirst_1 : decode cX6_isFirst 1 = .ok (.istore_n 3, 1) := by decide +kernel
theorem dX6_isFirst_2 : decode cX6_isFirst 2 = .ok (.iconst 0, 1) := by decide +kernel
theorem dX6_isFirst_3 : decode cX6_isFirst 3 = .ok (.istore 4, 2) := by decide +kernel
theorem dX6_isFirst_5 : decode cX6_isFirst 5 = .ok (.iload 4, 2) := by decide +kernel
theorem dX6_isFirst_7 : decode cX6_isFirst 7 = .ok (.aload_n 0, 1) := by decide +kernel
theorem dX6_isFirst_8 : decode cX6_isFirst 8 = .ok (.getfield 60, 3) := by decide +kernel
theorem dX6_isFirst_11 : decode cX6_isFirst 11 = .ok (.if_icmp .ge 35, 3) := by decide +kernel
theorem dX6_isFirst_14 : decode cX6_isFirst 14 = .ok (.iload_n 3, 1) := by decide +kernel
theorem dX6_isFirst_15 : decode cX6_isFirst 15 = .ok (.aload_n 0, 1) := by decide +kernel
theorem dX6_isFirst_16 : decode cX6_isFirst 16 = .ok (.getfield 51, 3) := by decide +kernel
theorem dX6_isFirst_19 : decode cX6_isFirst 19 = .ok (.bipush 20, 2) := by decide +kernel
theorem dX6_isFirst_21 : decode cX6_isFirst 21 = .ok (.iload 4, 2) := by decide +kernel
theorem dX6_isFirst_23 : decode cX6_isFirst 23 = .ok (.iadd, 1) := by decide +kernel
theorem dX6_isFirst_24 : decode cX6_isFirst 24 = .ok (.iaload, 1) := by decide +kernel
theorem dX6_isFirst_25 : decode cX6_isFirst 25 = .ok (.bipush (-9), 2) := by decide +kernel
theorem dX6_isFirst_27 : decode cX6_isFirst 27 = .ok (.if_icmp .ne 7, 3) := by decide +kernel
theorem dX6_isFirst_30 : decode cX6_isFirst 30 = .ok (.iconst 0, 1) := by decide +kernel
theorem dX6_isFirst_31 : decode cX6_isFirst 31 = .ok (.goto 7, 3) := by decide +kernel
theorem dX6_isFirst_34 : decode cX6_isFirst 34 = .ok (.iconst 1, 1) := by decide +kernel
theorem dX6_isFirst_35 : decode cX6_isFirst 35 = .ok (.iload 4, 2) := by decide +kernel
theorem dX6_isFirst_37 : decode cX6_isFirst 37 = .ok (.ishl, 1) := by decide +kernel
theorem dX6_isFirst_38 : decode cX6_isFirst 38 = .ok (.ior, 1) := by decide +kernel
theorem dX6_isFirst_39 : decode cX6_isFirst 39 = .ok (.istore_n 3, 1) := by decide +kernel
theorem dX6_isFirst_40 : decode cX6_isFirst 40 = .ok (.iinc 4 1, 3) := by decide +kernel
theorem dX6_isFirst_43 : decode cX6_isFirst 43 = .ok (.goto (-38), 3) := by decide +kernel
theorem dX6_isFirst_46 : decode cX6_isFirst 46 = .ok (.iconst 0, 1) := by decide +kernel
theorem dX6_isFirst_47 : decode cX6_isFirst 47 = .ok (.istore 4, 2) := by decide +kernel
theorem dX6_isFirst_49 : decode cX6_isFirst 49 = .ok (.iload 4, 2) := by decide +kernel
theorem dX6_isFirst_51 : decode cX6_isFirst 51 = .ok (.iload_n 2, 1) := by decide +kernel
theorem dX6_isFirst_52 : decode cX6_isFirst 52 = .ok (.if_icmp .ge 67, 3) := by decide +kernel
theorem dX6_isFirst_55 : decode cX6_isFirst 55 = .ok (.aload_n 0, 1) := by decide +kernel
theorem dX6_isFirst_56 : decode cX6_isFirst 56 = .ok (.invokevirtual 183, 3) := by decide +kernel
theorem dX6_isFirst_59 : decode cX6_isFirst 59 = .ok (.iconst 0, 1) := by decide +kernel
theorem dX6_isFirst_60 : decode cX6_isFirst 60 = .ok (.istore 5, 2) := by decide +kernel
theorem dX6_isFirst_62 : decode cX6_isFirst 62 = .ok (.iload 5, 2) := by decide +kernel
theorem dX6_isFirst_64 : decode cX6_isFirst 64 = .ok (.aload_n 0, 1) := by decide +kernel
theorem dX6_isFirst_65 : decode cX6_isFirst 65 = .ok (.getfield 60, 3) := by decide +kernel
theorem dX6_isFirst_68 : decode cX6_isFirst 68 = .ok (.if_icmp .ge 45, 3) := by decide +kernel
theorem dX6_isFirst_71 : decode cX6_isFirst 71 = .ok (.aload_n 0, 1) := by decide +kernel
theorem dX6_isFirst_72 : decode cX6_isFirst 72 = .ok (.getfield 51, 3) := by decide +kernel
theorem dX6_isFirst_75 : decode cX6_isFirst 75 = .ok (.bipush 20, 2) := by decide +kernel
theorem dX6_isFirst_77 : decode cX6_isFirst 77 = .ok (.iload 5, 2) := by decide +kernel
theorem dX6_isFirst_79 : decode cX6_isFirst 79 = .ok (.iadd, 1) := by decide +kernel
theorem dX6_isFirst_80 : decode cX6_isFirst 80 = .ok (.iaload, 1) := by decide +kernel
theorem dX6_isFirst_81 : decode cX6_isFirst 81 = .ok (.bipush (-9), 2) := by decide +kernel
theorem dX6_isFirst_83 : decode cX6_isFirst 83 = .ok (.if_icmp .eq 24, 3) := by decide +kernel
theorem dX6_isFirst_86 : decode cX6_isFirst 86 = .ok (.iload_n 3, 1) := by decide +kernel
theorem dX6_isFirst_87 : decode cX6_isFirst 87 = .ok (.iload 5, 2) := by decide +kernel
theorem dX6_isFirst_89 : decode cX6_isFirst 89 = .ok (.invokestatic 139, 3) := by decide +kernel
theorem dX6_isFirst_92 : decode cX6_isFirst 92 = .ok (.ifCond .ne 15, 3) := by decide +kernel
theorem dX6_isFirst_95 : decode cX6_isFirst 95 = .ok (.iload 5, 2) := by decide +kernel
theorem dX6_isFirst_97 : decode cX6_isFirst 97 = .ok (.iload_n 1, 1) := by decide +kernel
theorem dX6_isFirst_98 : decode cX6_isFirst 98 = .ok (.if_icmp .ne 7, 3) := by decide +kernel
theorem dX6_isFirst_101 : decode cX6_isFirst 101 = .ok (.iconst 1, 1) := by decide +kernel
theorem dX6_isFirst_102 : decode cX6_isFirst 102 = .ok (.goto 4, 3) := by decide +kernel
theorem dX6_isFirst_105 : decode cX6_isFirst 105 = .ok (.iconst 0, 1) := by decide +kernel
theorem dX6_isFirst_106 : decode cX6_isFirst 106 = .ok (.ireturn, 1) := by decide +kernel
theorem dX6_isFirst_107 : decode cX6_isFirst 107 = .ok (.iinc 5 1, 3) := by decide +kernel
theorem dX6_isFirst_110 : decode cX6_isFirst 110 = .ok (.goto (-48), 3) := by decide +kernel
theorem dX6_isFirst_113 : decode cX6_isFirst 113 = .ok (.iinc 4 1, 3) := by decide +kernel
theorem dX6_isFirst_116 : decode cX6_isFirst 116 = .ok (.goto (-67), 3) := by decide +kernel
theorem dX6_isFirst_119 : decode cX6_isFirst 119 = .ok (.iconst 0, 1) := by decide +kernel
theorem dX6_isFirst_120 : decode cX6_isFirst 120 = .ok (.ireturn, 1) := by decide +kernel
theorem dX6_kept_0 : decode cX6_kept 0 = .ok (.aload_n 0, 1) := by decide +kernel
theorem dX6_kept_1 : decode cX6_kept 1 = .ok (.iload_n 1, 1) := by decide +kernel
theorem dX6_kept_2 : decode cX6_kept 2 = .ok (.invokevirtual 164, 3) := by decide +kernel
theorem dX6_kept_5 : decode cX6_kept 5 = .ok (.ifCond .eq 13, 3) := by decide +kernel
theorem dX6_kept_8 : decode cX6_kept 8 = .ok (.iload_n 2, 1) := by decide +kernel
theorem dX6_kept_9 : decode cX6_kept 9 = .ok (.iconst 1, 1) := by decide +kernel
theorem dX6_kept_10 : decode cX6_kept 10 = .ok (.bipush 40, 2) := by decide +kernel
theorem dX6_kept_12 : decode cX6_kept 12 = .ok (.invokestatic 63, 3) := by decide +kernel
theorem dX6_kept_15 : decode cX6_kept 15 = .ok (.ifCond .ne 5, 3) := by decide +kernel
theorem dX6_kept_18 : decode cX6_kept 18 = .ok (.iconst (-1), 1) := by decide +kernel
theorem dX6_kept_19 : decode cX6_kept 19 = .ok (.ireturn, 1) := by decide +kernel
theorem dX6_kept_20 : decode cX6_kept 20 = .ok (.aload_n 0, 1) := by decide +kernel
theorem dX6_kept_21 : decode cX6_kept 21 = .ok (.getfield 29, 3) := by decide +kernel
theorem dX6_kept_24 : decode cX6_kept 24 = .ok (.iconst 2, 1) := by decide +kernel
theorem dX6_kept_25 : decode cX6_kept 25 = .ok (.iload_n 1, 1) := by decide +kernel
theorem dX6_kept_26 : decode cX6_kept 26 = .ok (.iadd, 1) := by decide +kernel
theorem dX6_kept_27 : decode cX6_kept 27 = .ok (.iaload, 1) := by decide +kernel
theorem dX6_kept_28 : decode cX6_kept 28 = .ok (.bipush (-9), 2) := by decide +kernel
theorem dX6_kept_30 : decode cX6_kept 30 = .ok (.if_icmp .ne 17, 3) := by decide +kernel
theorem dX6_kept_33 : decode cX6_kept 33 = .ok (.aload_n 0, 1) := by decide +kernel
theorem dX6_kept_34 : decode cX6_kept 34 = .ok (.getfield 29, 3) := by decide +kernel
theorem dX6_kept_37 : decode cX6_kept 37 = .ok (.bipush 20, 2) := by decide +kernel
theorem dX6_kept_39 : decode cX6_kept 39 = .ok (.iload_n 1, 1) := by decide +kernel
theorem dX6_kept_40 : decode cX6_kept 40 = .ok (.iadd, 1) := by decide +kernel
theorem dX6_kept_41 : decode cX6_kept 41 = .ok (.iaload, 1) := by decide +kernel
theorem dX6_kept_42 : decode cX6_kept 42 = .ok (.bipush (-9), 2) := by decide +kernel
theorem dX6_kept_44 : decode cX6_kept 44 = .ok (.if_icmp .eq 6, 3) := by decide +kernel
theorem dX6_kept_47 : decode cX6_kept 47 = .ok (.bipush (-2), 2) := by decide +kernel
theorem dX6_kept_49 : decode cX6_kept 49 = .ok (.ireturn, 1) := by decide +kernel
end
section
theorem dX6_kept_50 : decode cX6_kept 50 = .ok (.aload_n 0, 1) := by decide +kernel
theorem dX6_kept_51 : decode cX6_kept 51 = .ok (.invokevirtual 177, 3) := by decide +kernel
theorem dX6_kept_54 : decode cX6_kept 54 = .ok (.iconst 1, 1) := by decide +kernel
theorem dX6_kept_55 : decode cX6_kept 55 = .ok (.iload_n 1, 1) := by decide +kernel
theorem dX6_kept_56 : decode cX6_kept 56 = .ok (.ishl, 1) := by decide +kernel
theorem dX6_kept_57 : decode cX6_kept 57 = .ok (.iconst (-1), 1) := by decide +kernel
theorem dX6_kept_58 : decode cX6_kept 58 = .ok (.ixor, 1) := by decide +kernel
theorem dX6_kept_59 : decode cX6_kept 59 = .ok (.iand, 1) := by decide +kernel
theorem dX6_kept_60 : decode cX6_kept 60 = .ok (.istore_n 3, 1) := by decide +kernel
theorem dX6_kept_61 : decode cX6_kept 61 = .ok (.bipush (-9), 2) := by decide +kernel
theorem dX6_kept_63 : decode cX6_kept 63 = .ok (.istore 4, 2) := by decide +kernel
theorem dX6_kept_65 : decode cX6_kept 65 = .ok (.iconst 0, 1) := by decide +kernel
theorem dX6_kept_66 : decode cX6_kept 66 = .ok (.istore 5, 2) := by decide +kernel
theorem dX6_kept_68 : decode cX6_kept 68 = .ok (.iload 5, 2) := by decide +kernel
theorem dX6_kept_70 : decode cX6_kept 70 = .ok (.iconst 1, 1) := by decide +kernel
theorem dX6_kept_71 : decode cX6_kept 71 = .ok (.aload_n 0, 1) := by decide +kernel
theorem dX6_kept_72 : decode cX6_kept 72 = .ok (.getfield 60, 3) := by decide +kernel
theorem dX6_kept_75 : decode cX6_kept 75 = .ok (.ishl, 1) := by decide +kernel
theorem dX6_kept_76 : decode cX6_kept 76 = .ok (.if_icmp .ge 123, 3) := by decide +kernel
theorem dX6_kept_79 : decode cX6_kept 79 = .ok (.iload 5, 2) := by decide +kernel
theorem dX6_kept_81 : decode cX6_kept 81 = .ok (.iload_n 3, 1) := by decide +kernel
theorem dX6_kept_82 : decode cX6_kept 82 = .ok (.iconst (-1), 1) := by decide +kernel
theorem dX6_kept_83 : decode cX6_kept 83 = .ok (.ixor, 1) := by decide +kernel
theorem dX6_kept_84 : decode cX6_kept 84 = .ok (.iand, 1) := by decide +kernel
theorem dX6_kept_85 : decode cX6_kept 85 = .ok (.ifCond .ne 108, 3) := by decide +kernel
theorem dX6_kept_88 : decode cX6_kept 88 = .ok (.iload 4, 2) := by decide +kernel
theorem dX6_kept_90 : decode cX6_kept 90 = .ok (.ifCond .lt 16, 3) := by decide +kernel
theorem dX6_kept_93 : decode cX6_kept 93 = .ok (.iload 5, 2) := by decide +kernel
theorem dX6_kept_95 : decode cX6_kept 95 = .ok (.invokestatic 180, 3) := by decide +kernel
theorem dX6_kept_98 : decode cX6_kept 98 = .ok (.iload 4, 2) := by decide +kernel
theorem dX6_kept_100 : decode cX6_kept 100 = .ok (.invokestatic 180, 3) := by decide +kernel
theorem dX6_kept_103 : decode cX6_kept 103 = .ok (.if_icmp .ge 90, 3) := by decide +kernel
theorem dX6_kept_106 : decode cX6_kept 106 = .ok (.aload_n 0, 1) := by decide +kernel
theorem dX6_kept_107 : decode cX6_kept 107 = .ok (.invokevirtual 158, 3) := by decide +kernel
theorem dX6_kept_110 : decode cX6_kept 110 = .ok (.iconst 0, 1) := by decide +kernel
theorem dX6_kept_111 : decode cX6_kept 111 = .ok (.istore 6, 2) := by decide +kernel
theorem dX6_kept_113 : decode cX6_kept 113 = .ok (.iload 6, 2) := by decide +kernel
theorem dX6_kept_115 : decode cX6_kept 115 = .ok (.aload_n 0, 1) := by decide +kernel
theorem dX6_kept_116 : decode cX6_kept 116 = .ok (.getfield 60, 3) := by decide +kernel
theorem dX6_kept_119 : decode cX6_kept 119 = .ok (.if_icmp .ge 56, 3) := by decide +kernel
theorem dX6_kept_122 : decode cX6_kept 122 = .ok (.aload_n 0, 1) := by decide +kernel
theorem dX6_kept_123 : decode cX6_kept 123 = .ok (.getfield 51, 3) := by decide +kernel
theorem dX6_kept_126 : decode cX6_kept 126 = .ok (.iconst 2, 1) := by decide +kernel
theorem dX6_kept_127 : decode cX6_kept 127 = .ok (.iload 6, 2) := by decide +kernel
theorem dX6_kept_129 : decode cX6_kept 129 = .ok (.iadd, 1) := by decide +kernel
theorem dX6_kept_130 : decode cX6_kept 130 = .ok (.aload_n 0, 1) := by decide +kernel
theorem dX6_kept_131 : decode cX6_kept 131 = .ok (.getfield 51, 3) := by decide +kernel
theorem dX6_kept_134 : decode cX6_kept 134 = .ok (.iconst 2, 1) := by decide +kernel
theorem dX6_kept_135 : decode cX6_kept 135 = .ok (.iload 6, 2) := by decide +kernel
theorem dX6_kept_137 : decode cX6_kept 137 = .ok (.iadd, 1) := by decide +kernel
theorem dX6_kept_138 : decode cX6_kept 138 = .ok (.iaload, 1) := by decide +kernel
theorem dX6_kept_139 : decode cX6_kept 139 = .ok (.bipush (-9), 2) := by decide +kernel
theorem dX6_kept_141 : decode cX6_kept 141 = .ok (.if_icmp .ne 18, 3) := by decide +kernel
theorem dX6_kept_144 : decode cX6_kept 144 = .ok (.iload 5, 2) := by decide +kernel
theorem dX6_kept_146 : decode cX6_kept 146 = .ok (.iload 6, 2) := by decide +kernel
theorem dX6_kept_148 : decode cX6_kept 148 = .ok (.invokestatic 139, 3) := by decide +kernel
theorem dX6_kept_151 : decode cX6_kept 151 = .ok (.ifCond .ne 8, 3) := by decide +kernel
theorem dX6_kept_154 : decode cX6_kept 154 = .ok (.bipush 10, 2) := by decide +kernel
theorem dX6_kept_156 : decode cX6_kept 156 = .ok (.goto 12, 3) := by decide +kernel
theorem dX6_kept_159 : decode cX6_kept 159 = .ok (.aload_n 0, 1) := by decide +kernel
theorem dX6_kept_160 : decode cX6_kept 160 = .ok (.getfield 51, 3) := by decide +kernel
theorem dX6_kept_163 : decode cX6_kept 163 = .ok (.iconst 2, 1) := by decide +kernel
theorem dX6_kept_164 : decode cX6_kept 164 = .ok (.iload 6, 2) := by decide +kernel
theorem dX6_kept_166 : decode cX6_kept 166 = .ok (.iadd, 1) := by decide +kernel
theorem dX6_kept_167 : decode cX6_kept 167 = .ok (.iaload, 1) := by decide +kernel
theorem dX6_kept_168 : decode cX6_kept 168 = .ok (.iastore, 1) := by decide +kernel
theorem dX6_kept_169 : decode cX6_kept 169 = .ok (.iinc 6 1, 3) := by decide +kernel
theorem dX6_kept_172 : decode cX6_kept 172 = .ok (.goto (-59), 3) := by decide +kernel
theorem dX6_kept_175 : decode cX6_kept 175 = .ok (.aload_n 0, 1) := by decide +kernel
theorem dX6_kept_176 : decode cX6_kept 176 = .ok (.iload_n 1, 1) := by decide +kernel
theorem dX6_kept_177 : decode cX6_kept 177 = .ok (.iload_n 2, 1) := by decide +kernel
theorem dX6_kept_178 : decode cX6_kept 178 = .ok (.invokevirtual 189, 3) := by decide +kernel
theorem dX6_kept_181 : decode cX6_kept 181 = .ok (.ifCond .eq 8, 3) := by decide +kernel
theorem dX6_kept_184 : decode cX6_kept 184 = .ok (.iload 5, 2) := by decide +kernel
theorem dX6_kept_186 : decode cX6_kept 186 = .ok (.goto 5, 3) := by decide +kernel
theorem dX6_kept_189 : decode cX6_kept 189 = .ok (.iload 4, 2) := by decide +kernel
theorem dX6_kept_191 : decode cX6_kept 191 = .ok (.istore 4, 2) := by decide +kernel
theorem dX6_kept_193 : decode cX6_kept 193 = .ok (.iinc 5 1, 3) := by decide +kernel
theorem dX6_kept_196 : decode cX6_kept 196 = .ok (.goto (-128), 3) := by decide +kernel
theorem dX6_kept_199 : decode cX6_kept 199 = .ok (.iload 4, 2) := by decide +kernel
theorem dX6_kept_201 : decode cX6_kept 201 = .ok (.ireturn, 1) := by decide +kernel
theorem dX6_seatsOf_0 : decode cX6_seatsOf 0 = .ok (.iconst 0, 1) := by decide +kernel
theorem dX6_seatsOf_1 : decode cX6_seatsOf 1 = .ok (.istore_n 2, 1) := by decide +kernel
theorem dX6_seatsOf_2 : decode cX6_seatsOf 2 = .ok (.iconst 0, 1) := by decide +kernel
theorem dX6_seatsOf_3 : decode cX6_seatsOf 3 = .ok (.istore_n 3, 1) := by decide +kernel
theorem dX6_seatsOf_4 : decode cX6_seatsOf 4 = .ok (.iload_n 3, 1) := by decide +kernel
theorem dX6_seatsOf_5 : decode cX6_seatsOf 5 = .ok (.aload_n 0, 1) := by decide +kernel
theorem dX6_seatsOf_6 : decode cX6_seatsOf 6 = .ok (.getfield 60, 3) := by decide +kernel
theorem dX6_seatsOf_9 : decode cX6_seatsOf 9 = .ok (.if_icmp .ge 30, 3) := by decide +kernel
theorem dX6_seatsOf_12 : decode cX6_seatsOf 12 = .ok (.iload_n 2, 1) := by decide +kernel
theorem dX6_seatsOf_13 : decode cX6_seatsOf 13 = .ok (.iload_n 1, 1) := by decide +kernel
theorem dX6_seatsOf_14 : decode cX6_seatsOf 14 = .ok (.iload_n 3, 1) := by decide +kernel
theorem dX6_seatsOf_15 : decode cX6_seatsOf 15 = .ok (.invokestatic 139, 3) := by decide +kernel
theorem dX6_seatsOf_18 : decode cX6_seatsOf 18 = .ok (.ifCond .eq 12, 3) := by decide +kernel
theorem dX6_seatsOf_21 : decode cX6_seatsOf 21 = .ok (.aload_n 0, 1) := by decide +kernel
theorem dX6_seatsOf_22 : decode cX6_seatsOf 22 = .ok (.getfield 16, 3) := by decide +kernel
theorem dX6_seatsOf_25 : decode cX6_seatsOf 25 = .ok (.iload_n 3, 1) := by decide +kernel
theorem dX6_seatsOf_26 : decode cX6_seatsOf 26 = .ok (.iaload, 1) := by decide +kernel
theorem dX6_seatsOf_27 : decode cX6_seatsOf 27 = .ok (.goto 4, 3) := by decide +kernel
theorem dX6_seatsOf_30 : decode cX6_seatsOf 30 = .ok (.iconst 0, 1) := by decide +kernel
theorem dX6_seatsOf_31 : decode cX6_seatsOf 31 = .ok (.iadd, 1) := by decide +kernel
theorem dX6_seatsOf_32 : decode cX6_seatsOf 32 = .ok (.istore_n 2, 1) := by decide +kernel
theorem dX6_seatsOf_33 : decode cX6_seatsOf 33 = .ok (.iinc 3 1, 3) := by decide +kernel
theorem dX6_seatsOf_36 : decode cX6_seatsOf 36 = .ok (.goto (-32), 3) := by decide +kernel
theorem dX6_seatsOf_39 : decode cX6_seatsOf 39 = .ok (.iload_n 2, 1) := by decide +kernel
theorem dX6_seatsOf_40 : decode cX6_seatsOf 40 = .ok (.ireturn, 1) := by decide +kernel
theorem dX6_party_0 : decode cX6_party 0 = .ok (.iload_n 1, 1) := by decide +kernel
theorem dX6_party_1 : decode cX6_party 1 = .ok (.iconst 1, 1) := by decide +kernel
theorem dX6_party_2 : decode cX6_party 2 = .ok (.bipush 54, 2) := by decide +kernel
theorem dX6_party_4 : decode cX6_party 4 = .ok (.invokestatic 63, 3) := by decide +kernel
theorem dX6_party_7 : decode cX6_party 7 = .ok (.ifCond .ne 5, 3) := by decide +kernel
theorem dX6_party_10 : decode cX6_party 10 = .ok (.iconst (-1), 1) := by decide +kernel
theorem dX6_party_11 : decode cX6_party 11 = .ok (.ireturn, 1) := by decide +kernel
theorem dX6_party_12 : decode cX6_party 12 = .ok (.bipush (-9), 2) := by decide +kernel
theorem dX6_party_14 : decode cX6_party 14 = .ok (.istore_n 2, 1) := by decide +kernel
theorem dX6_party_15 : decode cX6_party 15 = .ok (.iconst 0, 1) := by decide +kernel
theorem dX6_party_16 : decode cX6_party 16 = .ok (.istore_n 3, 1) := by decide +kernel
theorem dX6_party_17 : decode cX6_party 17 = .ok (.iload_n 3, 1) := by decide +kernel
theorem dX6_party_18 : decode cX6_party 18 = .ok (.iconst 1, 1) := by decide +kernel
theorem dX6_party_19 : decode cX6_party 19 = .ok (.aload_n 0, 1) := by decide +kernel
theorem dX6_party_20 : decode cX6_party 20 = .ok (.getfield 60, 3) := by decide +kernel
theorem dX6_party_23 : decode cX6_party 23 = .ok (.ishl, 1) := by decide +kernel
theorem dX6_party_24 : decode cX6_party 24 = .ok (.if_icmp .ge 39, 3) := by decide +kernel
theorem dX6_party_27 : decode cX6_party 27 = .ok (.aload_n 0, 1) := by decide +kernel
theorem dX6_party_28 : decode cX6_party 28 = .ok (.iload_n 3, 1) := by decide +kernel
theorem dX6_party_29 : decode cX6_party 29 = .ok (.invokevirtual 192, 3) := by decide +kernel
theorem dX6_party_32 : decode cX6_party 32 = .ok (.iload_n 1, 1) := by decide +kernel
theorem dX6_party_33 : decode cX6_party 33 = .ok (.if_icmp .lt 22, 3) := by decide +kernel
theorem dX6_party_36 : decode cX6_party 36 = .ok (.iload_n 2, 1) := by decide +kernel
theorem dX6_party_37 : decode cX6_party 37 = .ok (.ifCond .lt 14, 3) := by decide +kernel
theorem dX6_party_40 : decode cX6_party 40 = .ok (.iload_n 3, 1) := by decide +kernel
theorem dX6_party_41 : decode cX6_party 41 = .ok (.invokestatic 180, 3) := by decide +kernel
theorem dX6_party_44 : decode cX6_party 44 = .ok (.iload_n 2, 1) := by decide +kernel
theorem dX6_party_45 : decode cX6_party 45 = .ok (.invokestatic 180, 3) := by decide +kernel
theorem dX6_party_48 : decode cX6_party 48 = .ok (.if_icmp .ge 7, 3) := by decide +kernel
theorem dX6_party_51 : decode cX6_party 51 = .ok (.iload_n 3, 1) := by decide +kernel
theorem dX6_party_52 : decode cX6_party 52 = .ok (.goto 4, 3) := by decide +kernel
theorem dX6_party_55 : decode cX6_party 55 = .ok (.iload_n 2, 1) := by decide +kernel
theorem dX6_party_56 : decode cX6_party 56 = .ok (.istore_n 2, 1) := by decide +kernel
theorem dX6_party_57 : decode cX6_party 57 = .ok (.iinc 3 1, 3) := by decide +kernel
theorem dX6_party_60 : decode cX6_party 60 = .ok (.goto (-43), 3) := by decide +kernel
theorem dX6_party_63 : decode cX6_party 63 = .ok (.iload_n 2, 1) := by decide +kernel
theorem dX6_party_64 : decode cX6_party 64 = .ok (.ireturn, 1) := by decide +kernel
theorem dX6_power_0 : decode cX6_power 0 = .ok (.aload_n 0, 1) := by decide +kernel
theorem dX6_power_1 : decode cX6_power 1 = .ok (.iload_n 1, 1) := by decide +kernel
theorem dX6_power_2 : decode cX6_power 2 = .ok (.invokevirtual 164, 3) := by decide +kernel
theorem dX6_power_5 : decode cX6_power 5 = .ok (.ifCond .eq 13, 3) := by decide +kernel
theorem dX6_power_8 : decode cX6_power 8 = .ok (.iload_n 2, 1) := by decide +kernel
theorem dX6_power_9 : decode cX6_power 9 = .ok (.iconst 1, 1) := by decide +kernel
theorem dX6_power_10 : decode cX6_power 10 = .ok (.bipush 54, 2) := by decide +kernel
theorem dX6_power_12 : decode cX6_power 12 = .ok (.invokestatic 63, 3) := by decide +kernel
theorem dX6_power_15 : decode cX6_power 15 = .ok (.ifCond .ne 5, 3) := by decide +kernel
theorem dX6_power_18 : decode cX6_power 18 = .ok (.iconst (-1), 1) := by decide +kernel
theorem dX6_power_19 : decode cX6_power 19 = .ok (.ireturn, 1) := by decide +kernel
theorem dX6_power_20 : decode cX6_power 20 = .ok (.iconst 0, 1) := by decide +kernel
theorem dX6_power_21 : decode cX6_power 21 = .ok (.istore_n 3, 1) := by decide +kernel
theorem dX6_power_22 : decode cX6_power 22 = .ok (.iconst 0, 1) := by decide +kernel
theorem dX6_power_23 : decode cX6_power 23 = .ok (.istore 4, 2) := by decide +kernel
theorem dX6_power_25 : decode cX6_power 25 = .ok (.iload 4, 2) := by decide +kernel
theorem dX6_power_27 : decode cX6_power 27 = .ok (.iconst 1, 1) := by decide +kernel
theorem dX6_power_28 : decode cX6_power 28 = .ok (.aload_n 0, 1) := by decide +kernel
theorem dX6_power_29 : decode cX6_power 29 = .ok (.getfield 60, 3) := by decide +kernel
theorem dX6_power_32 : decode cX6_power 32 = .ok (.ishl, 1) := by decide +kernel
theorem dX6_power_33 : decode cX6_power 33 = .ok (.if_icmp .ge 53, 3) := by decide +kernel
theorem dX6_power_36 : decode cX6_power 36 = .ok (.iload_n 3, 1) := by decide +kernel
theorem dX6_power_37 : decode cX6_power 37 = .ok (.iload 4, 2) := by decide +kernel
theorem dX6_power_39 : decode cX6_power 39 = .ok (.iload_n 1, 1) := by decide +kernel
theorem dX6_power_40 : decode cX6_power 40 = .ok (.invokestatic 139, 3) := by decide +kernel
theorem dX6_power_43 : decode cX6_power 43 = .ok (.ifCond .ne 34, 3) := by decide +kernel
theorem dX6_power_46 : decode cX6_power 46 = .ok (.aload_n 0, 1) := by decide +kernel
theorem dX6_power_47 : decode cX6_power 47 = .ok (.iload 4, 2) := by decide +kernel
theorem dX6_power_49 : decode cX6_power 49 = .ok (.invokevirtual 192, 3) := by decide +kernel
theorem dX6_power_52 : decode cX6_power 52 = .ok (.iload_n 2, 1) := by decide +kernel
theorem dX6_power_53 : decode cX6_power 53 = .ok (.if_icmp .ge 24, 3) := by decide +kernel
theorem dX6_power_56 : decode cX6_power 56 = .ok (.aload_n 0, 1) := by decide +kernel
theorem dX6_power_57 : decode cX6_power 57 = .ok (.iload 4, 2) := by decide +kernel
theorem dX6_power_59 : decode cX6_power 59 = .ok (.invokevirtual 192, 3) := by decide +kernel
theorem dX6_power_62 : decode cX6_power 62 = .ok (.aload_n 0, 1) := by decide +kernel
theorem dX6_power_63 : decode cX6_power 63 = .ok (.getfield 16, 3) := by decide +kernel
theorem dX6_power_66 : decode cX6_power 66 = .ok (.iload_n 1, 1) := by decide +kernel
theorem dX6_power_67 : decode cX6_power 67 = .ok (.iaload, 1) := by decide +kernel
theorem dX6_power_68 : decode cX6_power 68 = .ok (.iadd, 1) := by decide +kernel
theorem dX6_power_69 : decode cX6_power 69 = .ok (.iload_n 2, 1) := by decide +kernel
theorem dX6_power_70 : decode cX6_power 70 = .ok (.if_icmp .lt 7, 3) := by decide +kernel
theorem dX6_power_73 : decode cX6_power 73 = .ok (.iconst 1, 1) := by decide +kernel
theorem dX6_power_74 : decode cX6_power 74 = .ok (.goto 4, 3) := by decide +kernel
theorem dX6_power_77 : decode cX6_power 77 = .ok (.iconst 0, 1) := by decide +kernel
theorem dX6_power_78 : decode cX6_power 78 = .ok (.iadd, 1) := by decide +kernel
theorem dX6_power_79 : decode cX6_power 79 = .ok (.istore_n 3, 1) := by decide +kernel
theorem dX6_power_80 : decode cX6_power 80 = .ok (.iinc 4 1, 3) := by decide +kernel
theorem dX6_power_83 : decode cX6_power 83 = .ok (.goto (-58), 3) := by decide +kernel
theorem dX6_power_86 : decode cX6_power 86 = .ok (.iload_n 3, 1) := by decide +kernel
theorem dX6_power_87 : decode cX6_power 87 = .ok (.ireturn, 1) := by decide +kernel
theorem dX6_sizeOf_0 : decode cX6_sizeOf 0 = .ok (.iconst 0, 1) := by decide +kernel
theorem dX6_sizeOf_1 : decode cX6_sizeOf 1 = .ok (.istore_n 2, 1) := by decide +kernel
theorem dX6_sizeOf_2 : decode cX6_sizeOf 2 = .ok (.iconst 0, 1) := by decide +kernel
theorem dX6_sizeOf_3 : decode cX6_sizeOf 3 = .ok (.istore_n 3, 1) := by decide +kernel
theorem dX6_sizeOf_4 : decode cX6_sizeOf 4 = .ok (.iload_n 3, 1) := by decide +kernel
theorem dX6_sizeOf_5 : decode cX6_sizeOf 5 = .ok (.aload_n 0, 1) := by decide +kernel
theorem dX6_sizeOf_6 : decode cX6_sizeOf 6 = .ok (.getfield 60, 3) := by decide +kernel
theorem dX6_sizeOf_9 : decode cX6_sizeOf 9 = .ok (.if_icmp .ge 33, 3) := by decide +kernel
theorem dX6_sizeOf_12 : decode cX6_sizeOf 12 = .ok (.iload_n 2, 1) := by decide +kernel
theorem dX6_sizeOf_13 : decode cX6_sizeOf 13 = .ok (.iload_n 1, 1) := by decide +kernel
theorem dX6_sizeOf_14 : decode cX6_sizeOf 14 = .ok (.iload_n 3, 1) := by decide +kernel
theorem dX6_sizeOf_15 : decode cX6_sizeOf 15 = .ok (.invokestatic 139, 3) := by decide +kernel
theorem dX6_sizeOf_18 : decode cX6_sizeOf 18 = .ok (.ifCond .eq 15, 3) := by decide +kernel
theorem dX6_sizeOf_21 : decode cX6_sizeOf 21 = .ok (.aload_n 0, 1) := by decide +kernel
theorem dX6_sizeOf_22 : decode cX6_sizeOf 22 = .ok (.getfield 29, 3) := by decide +kernel
theorem dX6_sizeOf_25 : decode cX6_sizeOf 25 = .ok (.bipush 8, 2) := by decide +kernel
theorem dX6_sizeOf_27 : decode cX6_sizeOf 27 = .ok (.iload_n 3, 1) := by decide +kernel
theorem dX6_sizeOf_28 : decode cX6_sizeOf 28 = .ok (.iadd, 1) := by decide +kernel
theorem dX6_sizeOf_29 : decode cX6_sizeOf 29 = .ok (.iaload, 1) := by decide +kernel
theorem dX6_sizeOf_30 : decode cX6_sizeOf 30 = .ok (.goto 4, 3) := by decide +kernel
theorem dX6_sizeOf_33 : decode cX6_sizeOf 33 = .ok (.iconst 0, 1) := by decide +kernel
theorem dX6_sizeOf_34 : decode cX6_sizeOf 34 = .ok (.iadd, 1) := by decide +kernel
theorem dX6_sizeOf_35 : decode cX6_sizeOf 35 = .ok (.istore_n 2, 1) := by decide +kernel
theorem dX6_sizeOf_36 : decode cX6_sizeOf 36 = .ok (.iinc 3 1, 3) := by decide +kernel
theorem dX6_sizeOf_39 : decode cX6_sizeOf 39 = .ok (.goto (-35), 3) := by decide +kernel
theorem dX6_sizeOf_42 : decode cX6_sizeOf 42 = .ok (.iload_n 2, 1) := by decide +kernel
theorem dX6_sizeOf_43 : decode cX6_sizeOf 43 = .ok (.ireturn, 1) := by decide +kernel
theorem dX6_pots_0 : decode cX6_pots 0 = .ok (.iconst 1, 1) := by decide +kernel
theorem dX6_pots_1 : decode cX6_pots 1 = .ok (.aload_n 0, 1) := by decide +kernel
theorem dX6_pots_2 : decode cX6_pots 2 = .ok (.getfield 60, 3) := by decide +kernel
theorem dX6_pots_5 : decode cX6_pots 5 = .ok (.ishl, 1) := by decide +kernel
theorem dX6_pots_6 : decode cX6_pots 6 = .ok (.iconst 1, 1) := by decide +kernel
theorem dX6_pots_7 : decode cX6_pots 7 = .ok (.isub, 1) := by decide +kernel
theorem dX6_pots_8 : decode cX6_pots 8 = .ok (.istore_n 1, 1) := by decide +kernel
theorem dX6_pots_9 : decode cX6_pots 9 = .ok (.aload_n 0, 1) := by decide +kernel
theorem dX6_pots_10 : decode cX6_pots 10 = .ok (.getfield 54, 3) := by decide +kernel
theorem dX6_pots_13 : decode cX6_pots 13 = .ok (.iconst 0, 1) := by decide +kernel
theorem dX6_pots_14 : decode cX6_pots 14 = .ok (.iconst 0, 1) := by decide +kernel
theorem dX6_pots_15 : decode cX6_pots 15 = .ok (.iastore, 1) := by decide +kernel
theorem dX6_pots_16 : decode cX6_pots 16 = .ok (.iconst 1, 1) := by decide +kernel
theorem dX6_pots_17 : decode cX6_pots 17 = .ok (.istore_n 2, 1) := by decide +kernel
theorem dX6_pots_18 : decode cX6_pots 18 = .ok (.iload_n 2, 1) := by decide +kernel
theorem dX6_pots_19 : decode cX6_pots 19 = .ok (.iload_n 1, 1) := by decide +kernel
theorem dX6_pots_20 : decode cX6_pots 20 = .ok (.if_icmp .gt 100, 3) := by decide +kernel
theorem dX6_pots_23 : decode cX6_pots 23 = .ok (.aload_n 0, 1) := by decide +kernel
theorem dX6_pots_24 : decode cX6_pots 24 = .ok (.getfield 54, 3) := by decide +kernel
theorem dX6_pots_27 : decode cX6_pots 27 = .ok (.iload_n 2, 1) := by decide +kernel
theorem dX6_pots_28 : decode cX6_pots 28 = .ok (.bipush 99, 2) := by decide +kernel
theorem dX6_pots_30 : decode cX6_pots 30 = .ok (.iastore, 1) := by decide +kernel
theorem dX6_pots_31 : decode cX6_pots 31 = .ok (.iload_n 2, 1) := by decide +kernel
theorem dX6_pots_32 : decode cX6_pots 32 = .ok (.istore_n 3, 1) := by decide +kernel
theorem dX6_pots_33 : decode cX6_pots 33 = .ok (.iload_n 3, 1) := by decide +kernel
theorem dX6_pots_34 : decode cX6_pots 34 = .ok (.ifCond .le 80, 3) := by decide +kernel
theorem dX6_pots_37 : decode cX6_pots 37 = .ok (.aload_n 0, 1) := by decide +kernel
theorem dX6_pots_38 : decode cX6_pots 38 = .ok (.iload_n 3, 1) := by decide +kernel
theorem dX6_pots_39 : decode cX6_pots 39 = .ok (.invokevirtual 195, 3) := by decide +kernel
theorem dX6_pots_42 : decode cX6_pots 42 = .ok (.aload_n 0, 1) := by decide +kernel
theorem dX6_pots_43 : decode cX6_pots 43 = .ok (.getfield 26, 3) := by decide +kernel
theorem dX6_pots_46 : decode cX6_pots 46 = .ok (.if_icmp .gt 26, 3) := by decide +kernel
theorem dX6_pots_49 : decode cX6_pots 49 = .ok (.aload_n 0, 1) := by decide +kernel
theorem dX6_pots_50 : decode cX6_pots 50 = .ok (.getfield 54, 3) := by decide +kernel
theorem dX6_pots_53 : decode cX6_pots 53 = .ok (.iload_n 2, 1) := by decide +kernel
theorem dX6_pots_54 : decode cX6_pots 54 = .ok (.iload_n 3, 1) := by decide +kernel
theorem dX6_pots_55 : decode cX6_pots 55 = .ok (.isub, 1) := by decide +kernel
theorem dX6_pots_56 : decode cX6_pots 56 = .ok (.iaload, 1) := by decide +kernel
theorem dX6_pots_57 : decode cX6_pots 57 = .ok (.iconst 1, 1) := by decide +kernel
theorem dX6_pots_58 : decode cX6_pots 58 = .ok (.iadd, 1) := by decide +kernel
theorem dX6_pots_59 : decode cX6_pots 59 = .ok (.aload_n 0, 1) := by decide +kernel
theorem dX6_pots_60 : decode cX6_pots 60 = .ok (.getfield 54, 3) := by decide +kernel
theorem dX6_pots_63 : decode cX6_pots 63 = .ok (.iload_n 2, 1) := by decide +kernel
theorem dX6_pots_64 : decode cX6_pots 64 = .ok (.iaload, 1) := by decide +kernel
theorem dX6_pots_65 : decode cX6_pots 65 = .ok (.if_icmp .ge 7, 3) := by decide +kernel
theorem dX6_pots_68 : decode cX6_pots 68 = .ok (.iconst 1, 1) := by decide +kernel
theorem dX6_pots_69 : decode cX6_pots 69 = .ok (.goto 4, 3) := by decide +kernel
theorem dX6_pots_72 : decode cX6_pots 72 = .ok (.iconst 0, 1) := by decide +kernel
theorem dX6_pots_73 : decode cX6_pots 73 = .ok (.istore 4, 2) := by decide +kernel
theorem dX6_pots_75 : decode cX6_pots 75 = .ok (.aload_n 0, 1) := by decide +kernel
theorem dX6_pots_76 : decode cX6_pots 76 = .ok (.getfield 54, 3) := by decide +kernel
theorem dX6_pots_79 : decode cX6_pots 79 = .ok (.iload_n 2, 1) := by decide +kernel
theorem dX6_pots_80 : decode cX6_pots 80 = .ok (.iload 4, 2) := by decide +kernel
theorem dX6_pots_82 : decode cX6_pots 82 = .ok (.ifCond .eq 16, 3) := by decide +kernel
theorem dX6_pots_85 : decode cX6_pots 85 = .ok (.aload_n 0, 1) := by decide +kernel
theorem dX6_pots_86 : decode cX6_pots 86 = .ok (.getfield 54, 3) := by decide +kernel
theorem dX6_pots_89 : decode cX6_pots 89 = .ok (.iload_n 2, 1) := by decide +kernel
theorem dX6_pots_90 : decode cX6_pots 90 = .ok (.iload_n 3, 1) := by decide +kernel
theorem dX6_pots_91 : decode cX6_pots 91 = .ok (.isub, 1) := by decide +kernel
theorem dX6_pots_92 : decode cX6_pots 92 = .ok (.iaload, 1) := by decide +kernel
theorem dX6_pots_93 : decode cX6_pots 93 = .ok (.iconst 1, 1) := by decide +kernel
theorem dX6_pots_94 : decode cX6_pots 94 = .ok (.iadd, 1) := by decide +kernel
theorem dX6_pots_95 : decode cX6_pots 95 = .ok (.goto 9, 3) := by decide +kernel
theorem dX6_pots_98 : decode cX6_pots 98 = .ok (.aload_n 0, 1) := by decide +kernel
theorem dX6_pots_99 : decode cX6_pots 99 = .ok (.getfield 54, 3) := by decide +kernel
theorem dX6_pots_102 : decode cX6_pots 102 = .ok (.iload_n 2, 1) := by decide +kernel
theorem dX6_pots_103 : decode cX6_pots 103 = .ok (.iaload, 1) := by decide +kernel
theorem dX6_pots_104 : decode cX6_pots 104 = .ok (.iastore, 1) := by decide +kernel
theorem dX6_pots_105 : decode cX6_pots 105 = .ok (.iload_n 3, 1) := by decide +kernel
theorem dX6_pots_106 : decode cX6_pots 106 = .ok (.iconst 1, 1) := by decide +kernel
theorem dX6_pots_107 : decode cX6_pots 107 = .ok (.isub, 1) := by decide +kernel
theorem dX6_pots_108 : decode cX6_pots 108 = .ok (.iload_n 2, 1) := by decide +kernel
theorem dX6_pots_109 : decode cX6_pots 109 = .ok (.iand, 1) := by decide +kernel
theorem dX6_pots_110 : decode cX6_pots 110 = .ok (.istore_n 3, 1) := by decide +kernel
theorem dX6_pots_111 : decode cX6_pots 111 = .ok (.goto (-78), 3) := by decide +kernel
theorem dX6_pots_114 : decode cX6_pots 114 = .ok (.iinc 2 1, 3) := by decide +kernel
theorem dX6_pots_117 : decode cX6_pots 117 = .ok (.goto (-99), 3) := by decide +kernel
theorem dX6_pots_120 : decode cX6_pots 120 = .ok (.aload_n 0, 1) := by decide +kernel
theorem dX6_pots_121 : decode cX6_pots 121 = .ok (.getfield 54, 3) := by decide +kernel
theorem dX6_pots_124 : decode cX6_pots 124 = .ok (.iload_n 1, 1) := by decide +kernel
theorem dX6_pots_125 : decode cX6_pots 125 = .ok (.iaload, 1) := by decide +kernel
theorem dX6_pots_126 : decode cX6_pots 126 = .ok (.bipush 99, 2) := by decide +kernel
theorem dX6_pots_128 : decode cX6_pots 128 = .ok (.if_icmp .ne 8, 3) := by decide +kernel
theorem dX6_pots_131 : decode cX6_pots 131 = .ok (.bipush (-9), 2) := by decide +kernel
theorem dX6_pots_133 : decode cX6_pots 133 = .ok (.goto 9, 3) := by decide +kernel
theorem dX6_pots_136 : decode cX6_pots 136 = .ok (.aload_n 0, 1) := by decide +kernel
theorem dX6_pots_137 : decode cX6_pots 137 = .ok (.getfield 54, 3) := by decide +kernel
theorem dX6_pots_140 : decode cX6_pots 140 = .ok (.iload_n 1, 1) := by decide +kernel
theorem dX6_pots_141 : decode cX6_pots 141 = .ok (.iaload, 1) := by decide +kernel
theorem dX6_pots_142 : decode cX6_pots 142 = .ok (.ireturn, 1) := by decide +kernel
theorem dX6_lowest_0 : decode cX6_lowest 0 = .ok (.iload_n 0, 1) := by decide +kernel
theorem dX6_lowest_1 : decode cX6_lowest 1 = .ok (.istore_n 3, 1) := by decide +kernel
theorem dX6_lowest_2 : decode cX6_lowest 2 = .ok (.iload_n 1, 1) := by decide +kernel
theorem dX6_lowest_3 : decode cX6_lowest 3 = .ok (.istore 4, 2) := by decide +kernel
theorem dX6_lowest_5 : decode cX6_lowest 5 = .ok (.iload 4, 2) := by decide +kernel
theorem dX6_lowest_7 : decode cX6_lowest 7 = .ok (.ifCond .le 19, 3) := by decide +kernel
theorem dX6_lowest_10 : decode cX6_lowest 10 = .ok (.iload_n 3, 1) := by decide +kernel
theorem dX6_lowest_11 : decode cX6_lowest 11 = .ok (.iload 4, 2) := by decide +kernel
theorem dX6_lowest_13 : decode cX6_lowest 13 = .ok (.irem, 1) := by decide +kernel
theorem dX6_lowest_14 : decode cX6_lowest 14 = .ok (.istore 5, 2) := by decide +kernel
theorem dX6_lowest_16 : decode cX6_lowest 16 = .ok (.iload 4, 2) := by decide +kernel
theorem dX6_lowest_18 : decode cX6_lowest 18 = .ok (.istore_n 3, 1) := by decide +kernel
theorem dX6_lowest_19 : decode cX6_lowest 19 = .ok (.iload 5, 2) := by decide +kernel
theorem dX6_lowest_21 : decode cX6_lowest 21 = .ok (.istore 4, 2) := by decide +kernel
theorem dX6_lowest_23 : decode cX6_lowest 23 = .ok (.goto (-18), 3) := by decide +kernel
theorem dX6_lowest_26 : decode cX6_lowest 26 = .ok (.iload_n 2, 1) := by decide +kernel
theorem dX6_lowest_27 : decode cX6_lowest 27 = .ok (.ifCond .ne 7, 3) := by decide +kernel
theorem dX6_lowest_30 : decode cX6_lowest 30 = .ok (.iload_n 0, 1) := by decide +kernel
theorem dX6_lowest_31 : decode cX6_lowest 31 = .ok (.goto 4, 3) := by decide +kernel
theorem dX6_lowest_34 : decode cX6_lowest 34 = .ok (.iload_n 1, 1) := by decide +kernel
theorem dX6_lowest_35 : decode cX6_lowest 35 = .ok (.iload_n 3, 1) := by decide +kernel
theorem dX6_lowest_36 : decode cX6_lowest 36 = .ok (.idiv, 1) := by decide +kernel
theorem dX6_lowest_37 : decode cX6_lowest 37 = .ok (.ireturn, 1) := by decide +kernel
theorem dX6_odds_0 : decode cX6_odds 0 = .ok (.iload_n 1, 1) := by decide +kernel
theorem dX6_odds_1 : decode cX6_odds 1 = .ok (.iconst 0, 1) := by decide +kernel
theorem dX6_odds_2 : decode cX6_odds 2 = .ok (.bipush 10, 2) := by decide +kernel
theorem dX6_odds_4 : decode cX6_odds 4 = .ok (.invokestatic 63, 3) := by decide +kernel
theorem dX6_odds_7 : decode cX6_odds 7 = .ok (.ifCond .eq 22, 3) := by decide +kernel
theorem dX6_odds_10 : decode cX6_odds 10 = .ok (.iload_n 2, 1) := by decide +kernel
theorem dX6_odds_11 : decode cX6_odds 11 = .ok (.iconst 0, 1) := by decide +kernel
theorem dX6_odds_12 : decode cX6_odds 12 = .ok (.bipush 6, 2) := by decide +kernel
theorem dX6_odds_14 : decode cX6_odds 14 = .ok (.invokestatic 63, 3) := by decide +kernel
theorem dX6_odds_17 : decode cX6_odds 17 = .ok (.ifCond .eq 12, 3) := by decide +kernel
theorem dX6_odds_20 : decode cX6_odds 20 = .ok (.iload_n 3, 1) := by decide +kernel
theorem dX6_odds_21 : decode cX6_odds 21 = .ok (.iconst 0, 1) := by decide +kernel
theorem dX6_odds_22 : decode cX6_odds 22 = .ok (.iconst 1, 1) := by decide +kernel
theorem dX6_odds_23 : decode cX6_odds 23 = .ok (.invokestatic 63, 3) := by decide +kernel
theorem dX6_odds_26 : decode cX6_odds 26 = .ok (.ifCond .ne 5, 3) := by decide +kernel
theorem dX6_odds_29 : decode cX6_odds 29 = .ok (.iconst (-1), 1) := by decide +kernel
theorem dX6_odds_30 : decode cX6_odds 30 = .ok (.ireturn, 1) := by decide +kernel
theorem dX6_odds_31 : decode cX6_odds 31 = .ok (.aload_n 0, 1) := by decide +kernel
theorem dX6_odds_32 : decode cX6_odds 32 = .ok (.getfield 60, 3) := by decide +kernel
theorem dX6_odds_35 : decode cX6_odds 35 = .ok (.aload_n 0, 1) := by decide +kernel
theorem dX6_odds_36 : decode cX6_odds 36 = .ok (.invokevirtual 177, 3) := by decide +kernel
theorem dX6_odds_39 : decode cX6_odds 39 = .ok (.invokestatic 180, 3) := by decide +kernel
theorem dX6_odds_42 : decode cX6_odds 42 = .ok (.isub, 1) := by decide +kernel
theorem dX6_odds_43 : decode cX6_odds 43 = .ok (.istore 4, 2) := by decide +kernel
theorem dX6_odds_45 : decode cX6_odds 45 = .ok (.iconst 0, 1) := by decide +kernel
theorem dX6_odds_46 : decode cX6_odds 46 = .ok (.istore 5, 2) := by decide +kernel
theorem dX6_odds_48 : decode cX6_odds 48 = .ok (.iconst 1, 1) := by decide +kernel
theorem dX6_odds_49 : decode cX6_odds 49 = .ok (.istore 6, 2) := by decide +kernel
theorem dX6_odds_51 : decode cX6_odds 51 = .ok (.iconst 0, 1) := by decide +kernel
theorem dX6_odds_52 : decode cX6_odds 52 = .ok (.istore 7, 2) := by decide +kernel
theorem dX6_odds_54 : decode cX6_odds 54 = .ok (.iload 7, 2) := by decide +kernel
theorem dX6_odds_56 : decode cX6_odds 56 = .ok (.iload 4, 2) := by decide +kernel
theorem dX6_odds_58 : decode cX6_odds 58 = .ok (.if_icmp .ge 16, 3) := by decide +kernel
theorem dX6_odds_61 : decode cX6_odds 61 = .ok (.iload 6, 2) := by decide +kernel
theorem dX6_odds_63 : decode cX6_odds 63 = .ok (.bipush 10, 2) := by decide +kernel
theorem dX6_odds_65 : decode cX6_odds 65 = .ok (.imul, 1) := by decide +kernel
theorem dX6_odds_66 : decode cX6_odds 66 = .ok (.istore 6, 2) := by decide +kernel
theorem dX6_odds_68 : decode cX6_odds 68 = .ok (.iinc 7 1, 3) := by decide +kernel
theorem dX6_odds_71 : decode cX6_odds 71 = .ok (.goto (-17), 3) := by decide +kernel
theorem dX6_odds_74 : decode cX6_odds 74 = .ok (.iconst 0, 1) := by decide +kernel
theorem dX6_odds_75 : decode cX6_odds 75 = .ok (.istore 7, 2) := by decide +kernel
theorem dX6_odds_77 : decode cX6_odds 77 = .ok (.iload 7, 2) := by decide +kernel
theorem dX6_odds_79 : decode cX6_odds 79 = .ok (.iconst 1, 1) := by decide +kernel
theorem dX6_odds_80 : decode cX6_odds 80 = .ok (.iload 4, 2) := by decide +kernel
theorem dX6_odds_82 : decode cX6_odds 82 = .ok (.ishl, 1) := by decide +kernel
theorem dX6_odds_83 : decode cX6_odds 83 = .ok (.if_icmp .ge 71, 3) := by decide +kernel
theorem dX6_odds_86 : decode cX6_odds 86 = .ok (.iconst 1, 1) := by decide +kernel
theorem dX6_odds_87 : decode cX6_odds 87 = .ok (.istore 8, 2) := by decide +kernel
theorem dX6_odds_89 : decode cX6_odds 89 = .ok (.iconst 0, 1) := by decide +kernel
theorem dX6_odds_90 : decode cX6_odds 90 = .ok (.istore 9, 2) := by decide +kernel
theorem dX6_odds_92 : decode cX6_odds 92 = .ok (.iload 9, 2) := by decide +kernel
theorem dX6_odds_94 : decode cX6_odds 94 = .ok (.iload 4, 2) := by decide +kernel
theorem dX6_odds_96 : decode cX6_odds 96 = .ok (.if_icmp .ge 32, 3) := by decide +kernel
theorem dX6_odds_99 : decode cX6_odds 99 = .ok (.iload 8, 2) := by decide +kernel
theorem dX6_odds_101 : decode cX6_odds 101 = .ok (.iload 7, 2) := by decide +kernel
theorem dX6_odds_103 : decode cX6_odds 103 = .ok (.iload 9, 2) := by decide +kernel
theorem dX6_odds_105 : decode cX6_odds 105 = .ok (.invokestatic 139, 3) := by decide +kernel
theorem dX6_odds_108 : decode cX6_odds 108 = .ok (.ifCond .eq 7, 3) := by decide +kernel
theorem dX6_odds_111 : decode cX6_odds 111 = .ok (.iload_n 1, 1) := by decide +kernel
theorem dX6_odds_112 : decode cX6_odds 112 = .ok (.goto 7, 3) := by decide +kernel
theorem dX6_odds_115 : decode cX6_odds 115 = .ok (.bipush 10, 2) := by decide +kernel
theorem dX6_odds_117 : decode cX6_odds 117 = .ok (.iload_n 1, 1) := by decide +kernel
theorem dX6_odds_118 : decode cX6_odds 118 = .ok (.isub, 1) := by decide +kernel
theorem dX6_odds_119 : decode cX6_odds 119 = .ok (.imul, 1) := by decide +kernel
theorem dX6_odds_120 : decode cX6_odds 120 = .ok (.istore 8, 2) := by decide +kernel
theorem dX6_odds_122 : decode cX6_odds 122 = .ok (.iinc 9 1, 3) := by decide +kernel
theorem dX6_odds_125 : decode cX6_odds 125 = .ok (.goto (-33), 3) := by decide +kernel
theorem dX6_odds_128 : decode cX6_odds 128 = .ok (.iload 5, 2) := by decide +kernel
theorem dX6_odds_130 : decode cX6_odds 130 = .ok (.iload 7, 2) := by decide +kernel
theorem dX6_odds_132 : decode cX6_odds 132 = .ok (.invokestatic 180, 3) := by decide +kernel
theorem dX6_odds_135 : decode cX6_odds 135 = .ok (.iload_n 2, 1) := by decide +kernel
theorem dX6_odds_136 : decode cX6_odds 136 = .ok (.if_icmp .gt 8, 3) := by decide +kernel
theorem dX6_odds_139 : decode cX6_odds 139 = .ok (.iload 8, 2) := by decide +kernel
theorem dX6_odds_141 : decode cX6_odds 141 = .ok (.goto 4, 3) := by decide +kernel
theorem dX6_odds_144 : decode cX6_odds 144 = .ok (.iconst 0, 1) := by decide +kernel
theorem dX6_odds_145 : decode cX6_odds 145 = .ok (.iadd, 1) := by decide +kernel
theorem dX6_odds_146 : decode cX6_odds 146 = .ok (.istore 5, 2) := by decide +kernel
theorem dX6_odds_148 : decode cX6_odds 148 = .ok (.iinc 7 1, 3) := by decide +kernel
theorem dX6_odds_151 : decode cX6_odds 151 = .ok (.goto (-74), 3) := by decide +kernel
theorem dX6_odds_154 : decode cX6_odds 154 = .ok (.iload 5, 2) := by decide +kernel
theorem dX6_odds_156 : decode cX6_odds 156 = .ok (.iload 6, 2) := by decide +kernel
theorem dX6_odds_158 : decode cX6_odds 158 = .ok (.iload_n 3, 1) := by decide +kernel
theorem dX6_odds_159 : decode cX6_odds 159 = .ok (.invokestatic 198, 3) := by decide +kernel
theorem dX6_odds_162 : decode cX6_odds 162 = .ok (.ireturn, 1) := by decide +kernel
theorem dX6_sees_0 : decode cX6_sees 0 = .ok (.aload_n 0, 1) := by decide +kernel
theorem dX6_sees_1 : decode cX6_sees 1 = .ok (.iload_n 1, 1) := by decide +kernel
theorem dX6_sees_2 : decode cX6_sees 2 = .ok (.invokevirtual 164, 3) := by decide +kernel
theorem dX6_sees_5 : decode cX6_sees 5 = .ok (.ifCond .eq 23, 3) := by decide +kernel
theorem dX6_sees_8 : decode cX6_sees 8 = .ok (.iload_n 2, 1) := by decide +kernel
theorem dX6_sees_9 : decode cX6_sees 9 = .ok (.iconst 1, 1) := by decide +kernel
theorem dX6_sees_10 : decode cX6_sees 10 = .ok (.bipush 20, 2) := by decide +kernel
theorem dX6_sees_12 : decode cX6_sees 12 = .ok (.invokestatic 63, 3) := by decide +kernel
theorem dX6_sees_15 : decode cX6_sees 15 = .ok (.ifCond .eq 13, 3) := by decide +kernel
theorem dX6_sees_18 : decode cX6_sees 18 = .ok (.iload_n 3, 1) := by decide +kernel
theorem dX6_sees_19 : decode cX6_sees 19 = .ok (.iconst 0, 1) := by decide +kernel
theorem dX6_sees_20 : decode cX6_sees 20 = .ok (.bipush 10, 2) := by decide +kernel
theorem dX6_sees_22 : decode cX6_sees 22 = .ok (.invokestatic 63, 3) := by decide +kernel
theorem dX6_sees_25 : decode cX6_sees 25 = .ok (.ifCond .ne 5, 3) := by decide +kernel
theorem dX6_sees_28 : decode cX6_sees 28 = .ok (.iconst (-1), 1) := by decide +kernel
theorem dX6_sees_29 : decode cX6_sees 29 = .ok (.ireturn, 1) := by decide +kernel
theorem dX6_sees_30 : decode cX6_sees 30 = .ok (.aload_n 0, 1) := by decide +kernel
theorem dX6_sees_31 : decode cX6_sees 31 = .ok (.getfield 132, 3) := by decide +kernel
theorem dX6_sees_34 : decode cX6_sees 34 = .ok (.bipush 6, 2) := by decide +kernel
theorem dX6_sees_36 : decode cX6_sees 36 = .ok (.if_icmp .ne 6, 3) := by decide +kernel
theorem dX6_sees_39 : decode cX6_sees 39 = .ok (.bipush (-3), 2) := by decide +kernel
theorem dX6_sees_41 : decode cX6_sees 41 = .ok (.ireturn, 1) := by decide +kernel
theorem dX6_sees_42 : decode cX6_sees 42 = .ok (.aload_n 0, 1) := by decide +kernel
theorem dX6_sees_43 : decode cX6_sees 43 = .ok (.getfield 42, 3) := by decide +kernel
theorem dX6_sees_46 : decode cX6_sees 46 = .ok (.iconst 3, 1) := by decide +kernel
theorem dX6_sees_47 : decode cX6_sees 47 = .ok (.aload_n 0, 1) := by decide +kernel
theorem dX6_sees_48 : decode cX6_sees 48 = .ok (.getfield 132, 3) := by decide +kernel
theorem dX6_sees_51 : decode cX6_sees 51 = .ok (.imul, 1) := by decide +kernel
theorem dX6_sees_52 : decode cX6_sees 52 = .ok (.iload_n 1, 1) := by decide +kernel
theorem dX6_sees_53 : decode cX6_sees 53 = .ok (.iastore, 1) := by decide +kernel
theorem dX6_sees_54 : decode cX6_sees 54 = .ok (.aload_n 0, 1) := by decide +kernel
theorem dX6_sees_55 : decode cX6_sees 55 = .ok (.getfield 42, 3) := by decide +kernel
theorem dX6_sees_58 : decode cX6_sees 58 = .ok (.iconst 3, 1) := by decide +kernel
theorem dX6_sees_59 : decode cX6_sees 59 = .ok (.aload_n 0, 1) := by decide +kernel
theorem dX6_sees_60 : decode cX6_sees 60 = .ok (.getfield 132, 3) := by decide +kernel
theorem dX6_sees_63 : decode cX6_sees 63 = .ok (.imul, 1) := by decide +kernel
theorem dX6_sees_64 : decode cX6_sees 64 = .ok (.iconst 1, 1) := by decide +kernel
theorem dX6_sees_65 : decode cX6_sees 65 = .ok (.iadd, 1) := by decide +kernel
theorem dX6_sees_66 : decode cX6_sees 66 = .ok (.iload_n 2, 1) := by decide +kernel
theorem dX6_sees_67 : decode cX6_sees 67 = .ok (.iastore, 1) := by decide +kernel
theorem dX6_sees_68 : decode cX6_sees 68 = .ok (.aload_n 0, 1) := by decide +kernel
theorem dX6_sees_69 : decode cX6_sees 69 = .ok (.getfield 42, 3) := by decide +kernel
theorem dX6_sees_72 : decode cX6_sees 72 = .ok (.iconst 3, 1) := by decide +kernel
theorem dX6_sees_73 : decode cX6_sees 73 = .ok (.aload_n 0, 1) := by decide +kernel
theorem dX6_sees_74 : decode cX6_sees 74 = .ok (.getfield 132, 3) := by decide +kernel
theorem dX6_sees_77 : decode cX6_sees 77 = .ok (.imul, 1) := by decide +kernel
theorem dX6_sees_78 : decode cX6_sees 78 = .ok (.iconst 2, 1) := by decide +kernel
theorem dX6_sees_79 : decode cX6_sees 79 = .ok (.iadd, 1) := by decide +kernel
theorem dX6_sees_80 : decode cX6_sees 80 = .ok (.iload_n 3, 1) := by decide +kernel
theorem dX6_sees_81 : decode cX6_sees 81 = .ok (.iastore, 1) := by decide +kernel
theorem dX6_sees_82 : decode cX6_sees 82 = .ok (.aload_n 0, 1) := by decide +kernel
theorem dX6_sees_83 : decode cX6_sees 83 = .ok (.dup, 1) := by decide +kernel
theorem dX6_sees_84 : decode cX6_sees 84 = .ok (.getfield 132, 3) := by decide +kernel
theorem dX6_sees_87 : decode cX6_sees 87 = .ok (.iconst 1, 1) := by decide +kernel
theorem dX6_sees_88 : decode cX6_sees 88 = .ok (.iadd, 1) := by decide +kernel
theorem dX6_sees_89 : decode cX6_sees 89 = .ok (.putfield 132, 3) := by decide +kernel
theorem dX6_sees_92 : decode cX6_sees 92 = .ok (.aload_n 0, 1) := by decide +kernel
theorem dX6_sees_93 : decode cX6_sees 93 = .ok (.getfield 132, 3) := by decide +kernel
theorem dX6_sees_96 : decode cX6_sees 96 = .ok (.ireturn, 1) := by decide +kernel
theorem dX6_forget_0 : decode cX6_forget 0 = .ok (.aload_n 0, 1) := by decide +kernel
theorem dX6_forget_1 : decode cX6_forget 1 = .ok (.getfield 132, 3) := by decide +kernel
theorem dX6_forget_4 : decode cX6_forget 4 = .ok (.istore_n 1, 1) := by decide +kernel
theorem dX6_forget_5 : decode cX6_forget 5 = .ok (.aload_n 0, 1) := by decide +kernel
theorem dX6_forget_6 : decode cX6_forget 6 = .ok (.iconst 0, 1) := by decide +kernel
theorem dX6_forget_7 : decode cX6_forget 7 = .ok (.putfield 132, 3) := by decide +kernel
theorem dX6_forget_10 : decode cX6_forget 10 = .ok (.iload_n 1, 1) := by decide +kernel
theorem dX6_forget_11 : decode cX6_forget 11 = .ok (.ireturn, 1) := by decide +kernel
theorem dX6_deepAlone_0 : decode cX6_deepAlone 0 = .ok (.aload_n 0, 1) := by decide +kernel
theorem dX6_deepAlone_1 : decode cX6_deepAlone 1 = .ok (.getfield 29, 3) := by decide +kernel
theorem dX6_deepAlone_4 : decode cX6_deepAlone 4 = .ok (.bipush 8, 2) := by decide +kernel
theorem dX6_deepAlone_6 : decode cX6_deepAlone 6 = .ok (.iload_n 1, 1) := by decide +kernel
theorem dX6_deepAlone_7 : decode cX6_deepAlone 7 = .ok (.iadd, 1) := by decide +kernel
theorem dX6_deepAlone_8 : decode cX6_deepAlone 8 = .ok (.iaload, 1) := by decide +kernel
theorem dX6_deepAlone_9 : decode cX6_deepAlone 9 = .ok (.istore 4, 2) := by decide +kernel
theorem dX6_deepAlone_11 : decode cX6_deepAlone 11 = .ok (.bipush 10, 2) := by decide +kernel
theorem dX6_deepAlone_13 : decode cX6_deepAlone 13 = .ok (.istore 5, 2) := by decide +kernel
theorem dX6_deepAlone_15 : decode cX6_deepAlone 15 = .ok (.iconst 0, 1) := by decide +kernel
theorem dX6_deepAlone_16 : decode cX6_deepAlone 16 = .ok (.istore 6, 2) := by decide +kernel
theorem dX6_deepAlone_18 : decode cX6_deepAlone 18 = .ok (.iload 6, 2) := by decide +kernel
theorem dX6_deepAlone_20 : decode cX6_deepAlone 20 = .ok (.iload_n 3, 1) := by decide +kernel
theorem dX6_deepAlone_21 : decode cX6_deepAlone 21 = .ok (.if_icmp .ge 101, 3) := by decide +kernel
theorem dX6_deepAlone_24 : decode cX6_deepAlone 24 = .ok (.iload 4, 2) := by decide +kernel
theorem dX6_deepAlone_26 : decode cX6_deepAlone 26 = .ok (.aload_n 0, 1) := by decide +kernel
theorem dX6_deepAlone_27 : decode cX6_deepAlone 27 = .ok (.getfield 13, 3) := by decide +kernel
theorem dX6_deepAlone_30 : decode cX6_deepAlone 30 = .ok (.iload_n 1, 1) := by decide +kernel
theorem dX6_deepAlone_31 : decode cX6_deepAlone 31 = .ok (.iaload, 1) := by decide +kernel
theorem dX6_deepAlone_32 : decode cX6_deepAlone 32 = .ok (.iadd, 1) := by decide +kernel
theorem dX6_deepAlone_33 : decode cX6_deepAlone 33 = .ok (.bipush 30, 2) := by decide +kernel
theorem dX6_deepAlone_35 : decode cX6_deepAlone 35 = .ok (.if_icmp .le 8, 3) := by decide +kernel
theorem dX6_deepAlone_38 : decode cX6_deepAlone 38 = .ok (.bipush 30, 2) := by decide +kernel
theorem dX6_deepAlone_40 : decode cX6_deepAlone 40 = .ok (.goto 12, 3) := by decide +kernel
theorem dX6_deepAlone_43 : decode cX6_deepAlone 43 = .ok (.iload 4, 2) := by decide +kernel
theorem dX6_deepAlone_45 : decode cX6_deepAlone 45 = .ok (.aload_n 0, 1) := by decide +kernel
theorem dX6_deepAlone_46 : decode cX6_deepAlone 46 = .ok (.getfield 13, 3) := by decide +kernel
theorem dX6_deepAlone_49 : decode cX6_deepAlone 49 = .ok (.iload_n 1, 1) := by decide +kernel
theorem dX6_deepAlone_50 : decode cX6_deepAlone 50 = .ok (.iaload, 1) := by decide +kernel
theorem dX6_deepAlone_51 : decode cX6_deepAlone 51 = .ok (.iadd, 1) := by decide +kernel
theorem dX6_deepAlone_52 : decode cX6_deepAlone 52 = .ok (.istore 4, 2) := by decide +kernel
theorem dX6_deepAlone_54 : decode cX6_deepAlone 54 = .ok (.iload 4, 2) := by decide +kernel
theorem dX6_deepAlone_56 : decode cX6_deepAlone 56 = .ok (.aload_n 0, 1) := by decide +kernel
theorem dX6_deepAlone_57 : decode cX6_deepAlone 57 = .ok (.getfield 29, 3) := by decide +kernel
theorem dX6_deepAlone_60 : decode cX6_deepAlone 60 = .ok (.iconst 1, 1) := by decide +kernel
theorem dX6_deepAlone_61 : decode cX6_deepAlone 61 = .ok (.iaload, 1) := by decide +kernel
theorem dX6_deepAlone_62 : decode cX6_deepAlone 62 = .ok (.iadd, 1) := by decide +kernel
theorem dX6_deepAlone_63 : decode cX6_deepAlone 63 = .ok (.iload_n 2, 1) := by decide +kernel
theorem dX6_deepAlone_64 : decode cX6_deepAlone 64 = .ok (.isub, 1) := by decide +kernel
theorem dX6_deepAlone_65 : decode cX6_deepAlone 65 = .ok (.istore 7, 2) := by decide +kernel
theorem dX6_deepAlone_67 : decode cX6_deepAlone 67 = .ok (.iload 5, 2) := by decide +kernel
theorem dX6_deepAlone_69 : decode cX6_deepAlone 69 = .ok (.iload 7, 2) := by decide +kernel
theorem dX6_deepAlone_71 : decode cX6_deepAlone 71 = .ok (.ifCond .le 7, 3) := by decide +kernel
theorem dX6_deepAlone_74 : decode cX6_deepAlone 74 = .ok (.iconst 1, 1) := by decide +kernel
theorem dX6_deepAlone_75 : decode cX6_deepAlone 75 = .ok (.goto 13, 3) := by decide +kernel
theorem dX6_deepAlone_78 : decode cX6_deepAlone 78 = .ok (.iload 7, 2) := by decide +kernel
theorem dX6_deepAlone_80 : decode cX6_deepAlone 80 = .ok (.ifCond .ge 7, 3) := by decide +kernel
theorem dX6_deepAlone_83 : decode cX6_deepAlone 83 = .ok (.iconst (-1), 1) := by decide +kernel
theorem dX6_deepAlone_84 : decode cX6_deepAlone 84 = .ok (.goto 4, 3) := by decide +kernel
theorem dX6_deepAlone_87 : decode cX6_deepAlone 87 = .ok (.iconst 0, 1) := by decide +kernel
theorem dX6_deepAlone_88 : decode cX6_deepAlone 88 = .ok (.isub, 1) := by decide +kernel
theorem dX6_deepAlone_89 : decode cX6_deepAlone 89 = .ok (.istore 5, 2) := by decide +kernel
theorem dX6_deepAlone_91 : decode cX6_deepAlone 91 = .ok (.iload 5, 2) := by decide +kernel
theorem dX6_deepAlone_93 : decode cX6_deepAlone 93 = .ok (.ifCond .ge 7, 3) := by decide +kernel
theorem dX6_deepAlone_96 : decode cX6_deepAlone 96 = .ok (.iconst 0, 1) := by decide +kernel
theorem dX6_deepAlone_97 : decode cX6_deepAlone 97 = .ok (.goto 17, 3) := by decide +kernel
theorem dX6_deepAlone_100 : decode cX6_deepAlone 100 = .ok (.iload 5, 2) := by decide +kernel
theorem dX6_deepAlone_102 : decode cX6_deepAlone 102 = .ok (.bipush 10, 2) := by decide +kernel
theorem dX6_deepAlone_104 : decode cX6_deepAlone 104 = .ok (.if_icmp .le 8, 3) := by decide +kernel
theorem dX6_deepAlone_107 : decode cX6_deepAlone 107 = .ok (.bipush 10, 2) := by decide +kernel
theorem dX6_deepAlone_109 : decode cX6_deepAlone 109 = .ok (.goto 5, 3) := by decide +kernel
theorem dX6_deepAlone_112 : decode cX6_deepAlone 112 = .ok (.iload 5, 2) := by decide +kernel
theorem dX6_deepAlone_114 : decode cX6_deepAlone 114 = .ok (.istore 5, 2) := by decide +kernel
theorem dX6_deepAlone_116 : decode cX6_deepAlone 116 = .ok (.iinc 6 1, 3) := by decide +kernel
theorem dX6_deepAlone_119 : decode cX6_deepAlone 119 = .ok (.goto (-101), 3) := by decide +kernel
theorem dX6_deepAlone_122 : decode cX6_deepAlone 122 = .ok (.iload 5, 2) := by decide +kernel
theorem dX6_deepAlone_124 : decode cX6_deepAlone 124 = .ok (.ireturn, 1) := by decide +kernel
theorem dX6_isSo_0 : decode cX6_isSo 0 = .ok (.iconst 1, 1) := by decide +kernel
theorem dX6_isSo_1 : decode cX6_isSo 1 = .ok (.istore_n 3, 1) := by decide +kernel
theorem dX6_isSo_2 : decode cX6_isSo 2 = .ok (.iconst 0, 1) := by decide +kernel
theorem dX6_isSo_3 : decode cX6_isSo 3 = .ok (.istore 4, 2) := by decide +kernel
theorem dX6_isSo_5 : decode cX6_isSo 5 = .ok (.iload 4, 2) := by decide +kernel
theorem dX6_isSo_7 : decode cX6_isSo 7 = .ok (.aload_n 0, 1) := by decide +kernel
theorem dX6_isSo_8 : decode cX6_isSo 8 = .ok (.getfield 132, 3) := by decide +kernel
theorem dX6_isSo_11 : decode cX6_isSo 11 = .ok (.if_icmp .ge 63, 3) := by decide +kernel
theorem dX6_isSo_14 : decode cX6_isSo 14 = .ok (.iload_n 3, 1) := by decide +kernel
theorem dX6_isSo_15 : decode cX6_isSo 15 = .ok (.ifCond .eq 51, 3) := by decide +kernel
theorem dX6_isSo_18 : decode cX6_isSo 18 = .ok (.aload_n 0, 1) := by decide +kernel
theorem dX6_isSo_19 : decode cX6_isSo 19 = .ok (.getfield 42, 3) := by decide +kernel
theorem dX6_isSo_22 : decode cX6_isSo 22 = .ok (.iconst 3, 1) := by decide +kernel
theorem dX6_isSo_23 : decode cX6_isSo 23 = .ok (.iload 4, 2) := by decide +kernel
theorem dX6_isSo_25 : decode cX6_isSo 25 = .ok (.imul, 1) := by decide +kernel
theorem dX6_isSo_26 : decode cX6_isSo 26 = .ok (.iaload, 1) := by decide +kernel
theorem dX6_isSo_27 : decode cX6_isSo 27 = .ok (.iload_n 1, 1) := by decide +kernel
theorem dX6_isSo_28 : decode cX6_isSo 28 = .ok (.if_icmp .ne 34, 3) := by decide +kernel
theorem dX6_isSo_31 : decode cX6_isSo 31 = .ok (.aload_n 0, 1) := by decide +kernel
theorem dX6_isSo_32 : decode cX6_isSo 32 = .ok (.iload_n 1, 1) := by decide +kernel
theorem dX6_isSo_33 : decode cX6_isSo 33 = .ok (.iload_n 2, 1) := by decide +kernel
theorem dX6_isSo_34 : decode cX6_isSo 34 = .ok (.aload_n 0, 1) := by decide +kernel
theorem dX6_isSo_35 : decode cX6_isSo 35 = .ok (.getfield 42, 3) := by decide +kernel
theorem dX6_isSo_38 : decode cX6_isSo 38 = .ok (.iconst 3, 1) := by decide +kernel
theorem dX6_isSo_39 : decode cX6_isSo 39 = .ok (.iload 4, 2) := by decide +kernel
theorem dX6_isSo_41 : decode cX6_isSo 41 = .ok (.imul, 1) := by decide +kernel
theorem dX6_isSo_42 : decode cX6_isSo 42 = .ok (.iconst 1, 1) := by decide +kernel
theorem dX6_isSo_43 : decode cX6_isSo 43 = .ok (.iadd, 1) := by decide +kernel
theorem dX6_isSo_44 : decode cX6_isSo 44 = .ok (.iaload, 1) := by decide +kernel
theorem dX6_isSo_45 : decode cX6_isSo 45 = .ok (.invokevirtual 202, 3) := by decide +kernel
theorem dX6_isSo_48 : decode cX6_isSo 48 = .ok (.aload_n 0, 1) := by decide +kernel
theorem dX6_isSo_49 : decode cX6_isSo 49 = .ok (.getfield 42, 3) := by decide +kernel
theorem dX6_isSo_52 : decode cX6_isSo 52 = .ok (.iconst 3, 1) := by decide +kernel
theorem dX6_isSo_53 : decode cX6_isSo 53 = .ok (.iload 4, 2) := by decide +kernel
theorem dX6_isSo_55 : decode cX6_isSo 55 = .ok (.imul, 1) := by decide +kernel
theorem dX6_isSo_56 : decode cX6_isSo 56 = .ok (.iconst 2, 1) := by decide +kernel
theorem dX6_isSo_57 : decode cX6_isSo 57 = .ok (.iadd, 1) := by decide +kernel
theorem dX6_isSo_58 : decode cX6_isSo 58 = .ok (.iaload, 1) := by decide +kernel
theorem dX6_isSo_59 : decode cX6_isSo 59 = .ok (.if_icmp .ne 7, 3) := by decide +kernel
theorem dX6_isSo_62 : decode cX6_isSo 62 = .ok (.iconst 1, 1) := by decide +kernel
theorem dX6_isSo_63 : decode cX6_isSo 63 = .ok (.goto 4, 3) := by decide +kernel
theorem dX6_isSo_66 : decode cX6_isSo 66 = .ok (.iconst 0, 1) := by decide +kernel
theorem dX6_isSo_67 : decode cX6_isSo 67 = .ok (.istore_n 3, 1) := by decide +kernel
theorem dX6_isSo_68 : decode cX6_isSo 68 = .ok (.iinc 4 1, 3) := by decide +kernel
theorem dX6_isSo_71 : decode cX6_isSo 71 = .ok (.goto (-66), 3) := by decide +kernel
theorem dX6_isSo_74 : decode cX6_isSo 74 = .ok (.iload_n 3, 1) := by decide +kernel
theorem dX6_isSo_75 : decode cX6_isSo 75 = .ok (.ireturn, 1) := by decide +kernel
theorem dX6_weights_0 : decode cX6_weights 0 = .ok (.aload_n 0, 1) := by decide +kernel
theorem dX6_weights_1 : decode cX6_weights 1 = .ok (.iload_n 1, 1) := by decide +kernel
theorem dX6_weights_2 : decode cX6_weights 2 = .ok (.invokevirtual 164, 3) := by decide +kernel
theorem dX6_weights_5 : decode cX6_weights 5 = .ok (.ifCond .eq 12, 3) := by decide +kernel
theorem dX6_weights_8 : decode cX6_weights 8 = .ok (.iload_n 2, 1) := by decide +kernel
theorem dX6_weights_9 : decode cX6_weights 9 = .ok (.iconst 0, 1) := by decide +kernel
theorem dX6_weights_10 : decode cX6_weights 10 = .ok (.iconst 2, 1) := by decide +kernel
theorem dX6_weights_11 : decode cX6_weights 11 = .ok (.invokestatic 63, 3) := by decide +kernel
theorem dX6_weights_14 : decode cX6_weights 14 = .ok (.ifCond .ne 5, 3) := by decide +kernel
theorem dX6_weights_17 : decode cX6_weights 17 = .ok (.iconst (-1), 1) := by decide +kernel
theorem dX6_weights_18 : decode cX6_weights 18 = .ok (.ireturn, 1) := by decide +kernel
theorem dX6_weights_19 : decode cX6_weights 19 = .ok (.iconst 0, 1) := by decide +kernel
theorem dX6_weights_20 : decode cX6_weights 20 = .ok (.istore_n 3, 1) := by decide +kernel
theorem dX6_weights_21 : decode cX6_weights 21 = .ok (.bipush (-9), 2) := by decide +kernel
theorem dX6_weights_23 : decode cX6_weights 23 = .ok (.istore 4, 2) := by decide +kernel
theorem dX6_weights_25 : decode cX6_weights 25 = .ok (.bipush (-9), 2) := by decide +kernel
theorem dX6_weights_27 : decode cX6_weights 27 = .ok (.istore 5, 2) := by decide +kernel
theorem dX6_weights_29 : decode cX6_weights 29 = .ok (.iconst 0, 1) := by decide +kernel
theorem dX6_weights_30 : decode cX6_weights 30 = .ok (.istore 6, 2) := by decide +kernel
theorem dX6_weights_32 : decode cX6_weights 32 = .ok (.iload 6, 2) := by decide +kernel
theorem dX6_weights_34 : decode cX6_weights 34 = .ok (.bipush 40, 2) := by decide +kernel
theorem dX6_weights_36 : decode cX6_weights 36 = .ok (.if_icmp .gt 39, 3) := by decide +kernel
theorem dX6_weights_39 : decode cX6_weights 39 = .ok (.aload_n 0, 1) := by decide +kernel
theorem dX6_weights_40 : decode cX6_weights 40 = .ok (.iload_n 1, 1) := by decide +kernel
theorem dX6_weights_41 : decode cX6_weights 41 = .ok (.iload 6, 2) := by decide +kernel
theorem dX6_weights_43 : decode cX6_weights 43 = .ok (.invokevirtual 205, 3) := by decide +kernel
theorem dX6_weights_46 : decode cX6_weights 46 = .ok (.ifCond .eq 23, 3) := by decide +kernel
theorem dX6_weights_49 : decode cX6_weights 49 = .ok (.iload_n 3, 1) := by decide +kernel
theorem dX6_weights_50 : decode cX6_weights 50 = .ok (.ifCond .ne 8, 3) := by decide +kernel
theorem dX6_weights_53 : decode cX6_weights 53 = .ok (.iload 6, 2) := by decide +kernel
theorem dX6_weights_55 : decode cX6_weights 55 = .ok (.goto 5, 3) := by decide +kernel
theorem dX6_weights_58 : decode cX6_weights 58 = .ok (.iload 4, 2) := by decide +kernel
theorem dX6_weights_60 : decode cX6_weights 60 = .ok (.istore 4, 2) := by decide +kernel
theorem dX6_weights_62 : decode cX6_weights 62 = .ok (.iload 6, 2) := by decide +kernel
theorem dX6_weights_64 : decode cX6_weights 64 = .ok (.istore 5, 2) := by decide +kernel
theorem dX6_weights_66 : decode cX6_weights 66 = .ok (.iinc 3 1, 3) := by decide +kernel
theorem dX6_weights_69 : decode cX6_weights 69 = .ok (.iinc 6 1, 3) := by decide +kernel
theorem dX6_weights_72 : decode cX6_weights 72 = .ok (.goto (-40), 3) := by decide +kernel
theorem dX6_weights_75 : decode cX6_weights 75 = .ok (.iload_n 2, 1) := by decide +kernel
theorem dX6_weights_76 : decode cX6_weights 76 = .ok (.ifCond .ne 7, 3) := by decide +kernel
theorem dX6_weights_79 : decode cX6_weights 79 = .ok (.iload_n 3, 1) := by decide +kernel
theorem dX6_weights_80 : decode cX6_weights 80 = .ok (.goto 15, 3) := by decide +kernel
theorem dX6_weights_83 : decode cX6_weights 83 = .ok (.iload_n 2, 1) := by decide +kernel
theorem dX6_weights_84 : decode cX6_weights 84 = .ok (.iconst 1, 1) := by decide +kernel
theorem dX6_weights_85 : decode cX6_weights 85 = .ok (.if_icmp .ne 8, 3) := by decide +kernel
theorem dX6_weights_88 : decode cX6_weights 88 = .ok (.iload 4, 2) := by decide +kernel
theorem dX6_weights_90 : decode cX6_weights 90 = .ok (.goto 5, 3) := by decide +kernel
theorem dX6_weights_93 : decode cX6_weights 93 = .ok (.iload 5, 2) := by decide +kernel
theorem dX6_weights_95 : decode cX6_weights 95 = .ok (.ireturn, 1) := by decide +kernel
theorem dX6_greatestPart_0 : decode cX6_greatestPart 0 = .ok (.iconst 0, 1) := by decide +kernel
theorem dX6_greatestPart_1 : decode cX6_greatestPart 1 = .ok (.istore_n 3, 1) := by decide +kernel
theorem dX6_greatestPart_2 : decode cX6_greatestPart 2 = .ok (.iload_n 3, 1) := by decide +kernel
theorem dX6_greatestPart_3 : decode cX6_greatestPart 3 = .ok (.bipush 10, 2) := by decide +kernel
theorem dX6_greatestPart_5 : decode cX6_greatestPart 5 = .ok (.if_icmp .gt 16, 3) := by decide +kernel
theorem dX6_greatestPart_8 : decode cX6_greatestPart 8 = .ok (.aload_n 0, 1) := by decide +kernel
theorem dX6_greatestPart_9 : decode cX6_greatestPart 9 = .ok (.getfield 57, 3) := by decide +kernel
theorem dX6_greatestPart_12 : decode cX6_greatestPart 12 = .ok (.iload_n 3, 1) := by decide +kernel
theorem dX6_greatestPart_13 : decode cX6_greatestPart 13 = .ok (.iconst 0, 1) := by decide +kernel
theorem dX6_greatestPart_14 : decode cX6_greatestPart 14 = .ok (.iastore, 1) := by decide +kernel
theorem dX6_greatestPart_15 : decode cX6_greatestPart 15 = .ok (.iinc 3 1, 3) := by decide +kernel
theorem dX6_greatestPart_18 : decode cX6_greatestPart 18 = .ok (.goto (-16), 3) := by decide +kernel
theorem dX6_greatestPart_21 : decode cX6_greatestPart 21 = .ok (.iconst 0, 1) := by decide +kernel
theorem dX6_greatestPart_22 : decode cX6_greatestPart 22 = .ok (.istore_n 3, 1) := by decide +kernel
theorem dX6_greatestPart_23 : decode cX6_greatestPart 23 = .ok (.iconst 0, 1) := by decide +kernel
theorem dX6_greatestPart_24 : decode cX6_greatestPart 24 = .ok (.istore 4, 2) := by decide +kernel
theorem dX6_greatestPart_26 : decode cX6_greatestPart 26 = .ok (.iload 4, 2) := by decide +kernel
theorem dX6_greatestPart_28 : decode cX6_greatestPart 28 = .ok (.bipush 40, 2) := by decide +kernel
theorem dX6_greatestPart_30 : decode cX6_greatestPart 30 = .ok (.if_icmp .gt 67, 3) := by decide +kernel
theorem dX6_greatestPart_33 : decode cX6_greatestPart 33 = .ok (.aload_n 0, 1) := by decide +kernel
theorem dX6_greatestPart_34 : decode cX6_greatestPart 34 = .ok (.iload_n 1, 1) := by decide +kernel
theorem dX6_greatestPart_35 : decode cX6_greatestPart 35 = .ok (.iload 4, 2) := by decide +kernel
theorem dX6_greatestPart_37 : decode cX6_greatestPart 37 = .ok (.iload_n 2, 1) := by decide +kernel
theorem dX6_greatestPart_38 : decode cX6_greatestPart 38 = .ok (.invokevirtual 202, 3) := by decide +kernel
theorem dX6_greatestPart_41 : decode cX6_greatestPart 41 = .ok (.istore 5, 2) := by decide +kernel
theorem dX6_greatestPart_43 : decode cX6_greatestPart 43 = .ok (.aload_n 0, 1) := by decide +kernel
theorem dX6_greatestPart_44 : decode cX6_greatestPart 44 = .ok (.getfield 57, 3) := by decide +kernel
theorem dX6_greatestPart_47 : decode cX6_greatestPart 47 = .ok (.iload 5, 2) := by decide +kernel
theorem dX6_greatestPart_49 : decode cX6_greatestPart 49 = .ok (.dup2, 1) := by decide +kernel
theorem dX6_greatestPart_50 : decode cX6_greatestPart 50 = .ok (.iaload, 1) := by decide +kernel
theorem dX6_greatestPart_51 : decode cX6_greatestPart 51 = .ok (.aload_n 0, 1) := by decide +kernel
theorem dX6_greatestPart_52 : decode cX6_greatestPart 52 = .ok (.iload_n 1, 1) := by decide +kernel
theorem dX6_greatestPart_53 : decode cX6_greatestPart 53 = .ok (.iload 4, 2) := by decide +kernel
theorem dX6_greatestPart_55 : decode cX6_greatestPart 55 = .ok (.invokevirtual 205, 3) := by decide +kernel
theorem dX6_greatestPart_58 : decode cX6_greatestPart 58 = .ok (.ifCond .eq 7, 3) := by decide +kernel
theorem dX6_greatestPart_61 : decode cX6_greatestPart 61 = .ok (.iconst 1, 1) := by decide +kernel
theorem dX6_greatestPart_62 : decode cX6_greatestPart 62 = .ok (.goto 4, 3) := by decide +kernel
theorem dX6_greatestPart_65 : decode cX6_greatestPart 65 = .ok (.iconst 0, 1) := by decide +kernel
theorem dX6_greatestPart_66 : decode cX6_greatestPart 66 = .ok (.iadd, 1) := by decide +kernel
theorem dX6_greatestPart_67 : decode cX6_greatestPart 67 = .ok (.iastore, 1) := by decide +kernel
theorem dX6_greatestPart_68 : decode cX6_greatestPart 68 = .ok (.aload_n 0, 1) := by decide +kernel
theorem dX6_greatestPart_69 : decode cX6_greatestPart 69 = .ok (.getfield 57, 3) := by decide +kernel
theorem dX6_greatestPart_72 : decode cX6_greatestPart 72 = .ok (.iload 5, 2) := by decide +kernel
theorem dX6_greatestPart_74 : decode cX6_greatestPart 74 = .ok (.iaload, 1) := by decide +kernel
theorem dX6_greatestPart_75 : decode cX6_greatestPart 75 = .ok (.iload_n 3, 1) := by decide +kernel
theorem dX6_greatestPart_76 : decode cX6_greatestPart 76 = .ok (.if_icmp .le 13, 3) := by decide +kernel
theorem dX6_greatestPart_79 : decode cX6_greatestPart 79 = .ok (.aload_n 0, 1) := by decide +kernel
theorem dX6_greatestPart_80 : decode cX6_greatestPart 80 = .ok (.getfield 57, 3) := by decide +kernel
theorem dX6_greatestPart_83 : decode cX6_greatestPart 83 = .ok (.iload 5, 2) := by decide +kernel
theorem dX6_greatestPart_85 : decode cX6_greatestPart 85 = .ok (.iaload, 1) := by decide +kernel
theorem dX6_greatestPart_86 : decode cX6_greatestPart 86 = .ok (.goto 4, 3) := by decide +kernel
theorem dX6_greatestPart_89 : decode cX6_greatestPart 89 = .ok (.iload_n 3, 1) := by decide +kernel
theorem dX6_greatestPart_90 : decode cX6_greatestPart 90 = .ok (.istore_n 3, 1) := by decide +kernel
theorem dX6_greatestPart_91 : decode cX6_greatestPart 91 = .ok (.iinc 4 1, 3) := by decide +kernel
theorem dX6_greatestPart_94 : decode cX6_greatestPart 94 = .ok (.goto (-68), 3) := by decide +kernel
theorem dX6_greatestPart_97 : decode cX6_greatestPart 97 = .ok (.iload_n 3, 1) := by decide +kernel
theorem dX6_greatestPart_98 : decode cX6_greatestPart 98 = .ok (.ireturn, 1) := by decide +kernel
theorem dX6_look_0 : decode cX6_look 0 = .ok (.aload_n 0, 1) := by decide +kernel
theorem dX6_look_1 : decode cX6_look 1 = .ok (.iload_n 1, 1) := by decide +kernel
theorem dX6_look_2 : decode cX6_look 2 = .ok (.invokevirtual 164, 3) := by decide +kernel
theorem dX6_look_5 : decode cX6_look 5 = .ok (.ifCond .ne 5, 3) := by decide +kernel
theorem dX6_look_8 : decode cX6_look 8 = .ok (.iconst (-1), 1) := by decide +kernel
theorem dX6_look_9 : decode cX6_look 9 = .ok (.ireturn, 1) := by decide +kernel
theorem dX6_look_10 : decode cX6_look 10 = .ok (.aload_n 0, 1) := by decide +kernel
theorem dX6_look_11 : decode cX6_look 11 = .ok (.iload_n 1, 1) := by decide +kernel
theorem dX6_look_12 : decode cX6_look 12 = .ok (.iconst 0, 1) := by decide +kernel
theorem dX6_look_13 : decode cX6_look 13 = .ok (.invokevirtual 208, 3) := by decide +kernel
theorem dX6_look_16 : decode cX6_look 16 = .ok (.iconst 2, 1) := by decide +kernel
theorem dX6_look_17 : decode cX6_look 17 = .ok (.if_icmp .ge 6, 3) := by decide +kernel
theorem dX6_look_20 : decode cX6_look 20 = .ok (.bipush (-9), 2) := by decide +kernel
theorem dX6_look_22 : decode cX6_look 22 = .ok (.ireturn, 1) := by decide +kernel
theorem dX6_look_23 : decode cX6_look 23 = .ok (.bipush (-9), 2) := by decide +kernel
theorem dX6_look_25 : decode cX6_look 25 = .ok (.istore_n 2, 1) := by decide +kernel
theorem dX6_look_26 : decode cX6_look 26 = .ok (.iconst 0, 1) := by decide +kernel
theorem dX6_look_27 : decode cX6_look 27 = .ok (.istore_n 3, 1) := by decide +kernel
theorem dX6_look_28 : decode cX6_look 28 = .ok (.iconst 1, 1) := by decide +kernel
theorem dX6_look_29 : decode cX6_look 29 = .ok (.istore 4, 2) := by decide +kernel
theorem dX6_look_31 : decode cX6_look 31 = .ok (.iload 4, 2) := by decide +kernel
theorem dX6_look_33 : decode cX6_look 33 = .ok (.bipush 20, 2) := by decide +kernel
theorem dX6_look_35 : decode cX6_look 35 = .ok (.if_icmp .gt 59, 3) := by decide +kernel
theorem dX6_look_38 : decode cX6_look 38 = .ok (.aload_n 0, 1) := by decide +kernel
theorem dX6_look_39 : decode cX6_look 39 = .ok (.iload_n 1, 1) := by decide +kernel
theorem dX6_look_40 : decode cX6_look 40 = .ok (.iload 4, 2) := by decide +kernel
theorem dX6_look_42 : decode cX6_look 42 = .ok (.invokevirtual 210, 3) := by decide +kernel
theorem dX6_look_45 : decode cX6_look 45 = .ok (.istore 5, 2) := by decide +kernel
theorem dX6_look_47 : decode cX6_look 47 = .ok (.iload_n 2, 1) := by decide +kernel
theorem dX6_look_48 : decode cX6_look 48 = .ok (.ifCond .lt 9, 3) := by decide +kernel
theorem dX6_look_51 : decode cX6_look 51 = .ok (.iload 5, 2) := by decide +kernel
theorem dX6_look_53 : decode cX6_look 53 = .ok (.iload_n 3, 1) := by decide +kernel
theorem dX6_look_54 : decode cX6_look 54 = .ok (.if_icmp .ge 7, 3) := by decide +kernel
theorem dX6_look_57 : decode cX6_look 57 = .ok (.iconst 1, 1) := by decide +kernel
theorem dX6_look_58 : decode cX6_look 58 = .ok (.goto 4, 3) := by decide +kernel
theorem dX6_look_61 : decode cX6_look 61 = .ok (.iconst 0, 1) := by decide +kernel
theorem dX6_look_62 : decode cX6_look 62 = .ok (.istore 6, 2) := by decide +kernel
theorem dX6_look_64 : decode cX6_look 64 = .ok (.iload 6, 2) := by decide +kernel
theorem dX6_look_66 : decode cX6_look 66 = .ok (.ifCond .eq 8, 3) := by decide +kernel
theorem dX6_look_69 : decode cX6_look 69 = .ok (.iload 4, 2) := by decide +kernel
theorem dX6_look_71 : decode cX6_look 71 = .ok (.goto 4, 3) := by decide +kernel
theorem dX6_look_74 : decode cX6_look 74 = .ok (.iload_n 2, 1) := by decide +kernel
theorem dX6_look_75 : decode cX6_look 75 = .ok (.istore_n 2, 1) := by decide +kernel
theorem dX6_look_76 : decode cX6_look 76 = .ok (.iload 6, 2) := by decide +kernel
theorem dX6_look_78 : decode cX6_look 78 = .ok (.ifCond .eq 8, 3) := by decide +kernel
theorem dX6_look_81 : decode cX6_look 81 = .ok (.iload 5, 2) := by decide +kernel
theorem dX6_look_83 : decode cX6_look 83 = .ok (.goto 4, 3) := by decide +kernel
theorem dX6_look_86 : decode cX6_look 86 = .ok (.iload_n 3, 1) := by decide +kernel
theorem dX6_look_87 : decode cX6_look 87 = .ok (.istore_n 3, 1) := by decide +kernel
theorem dX6_look_88 : decode cX6_look 88 = .ok (.iinc 4 1, 3) := by decide +kernel
theorem dX6_look_91 : decode cX6_look 91 = .ok (.goto (-60), 3) := by decide +kernel
theorem dX6_look_94 : decode cX6_look 94 = .ok (.iload_n 2, 1) := by decide +kernel
theorem dX6_look_95 : decode cX6_look 95 = .ok (.ireturn, 1) := by decide +kernel
theorem dX6_rate_0 : decode cX6_rate 0 = .ok (.iload_n 1, 1) := by decide +kernel
theorem dX6_rate_1 : decode cX6_rate 1 = .ok (.iconst 0, 1) := by decide +kernel
theorem dX6_rate_2 : decode cX6_rate 2 = .ok (.iconst 5, 1) := by decide +kernel
theorem dX6_rate_3 : decode cX6_rate 3 = .ok (.invokestatic 63, 3) := by decide +kernel
theorem dX6_rate_6 : decode cX6_rate 6 = .ok (.ifCond .eq 11, 3) := by decide +kernel
theorem dX6_rate_9 : decode cX6_rate 9 = .ok (.aload_n 0, 1) := by decide +kernel
theorem dX6_rate_10 : decode cX6_rate 10 = .ok (.iload_n 2, 1) := by decide +kernel
theorem dX6_rate_11 : decode cX6_rate 11 = .ok (.invokevirtual 164, 3) := by decide +kernel
theorem dX6_rate_14 : decode cX6_rate 14 = .ok (.ifCond .ne 6, 3) := by decide +kernel
theorem dX6_rate_17 : decode cX6_rate 17 = .ok (.ldc 213, 2) := by decide +kernel
theorem dX6_rate_19 : decode cX6_rate 19 = .ok (.ireturn, 1) := by decide +kernel
theorem dX6_rate_20 : decode cX6_rate 20 = .ok (.aload_n 0, 1) := by decide +kernel
theorem dX6_rate_21 : decode cX6_rate 21 = .ok (.getfield 29, 3) := by decide +kernel
theorem dX6_rate_24 : decode cX6_rate 24 = .ok (.bipush 8, 2) := by decide +kernel
theorem dX6_rate_26 : decode cX6_rate 26 = .ok (.iload_n 2, 1) := by decide +kernel
theorem dX6_rate_27 : decode cX6_rate 27 = .ok (.iadd, 1) := by decide +kernel
theorem dX6_rate_28 : decode cX6_rate 28 = .ok (.iaload, 1) := by decide +kernel
theorem dX6_rate_29 : decode cX6_rate 29 = .ok (.istore_n 3, 1) := by decide +kernel
theorem dX6_rate_30 : decode cX6_rate 30 = .ok (.iload_n 3, 1) := by decide +kernel
theorem dX6_rate_31 : decode cX6_rate 31 = .ok (.aload_n 0, 1) := by decide +kernel
theorem dX6_rate_32 : decode cX6_rate 32 = .ok (.getfield 7, 3) := by decide +kernel
theorem dX6_rate_35 : decode cX6_rate 35 = .ok (.iload_n 2, 1) := by decide +kernel
theorem dX6_rate_36 : decode cX6_rate 36 = .ok (.iaload, 1) := by decide +kernel
theorem dX6_rate_37 : decode cX6_rate 37 = .ok (.iadd, 1) := by decide +kernel
theorem dX6_rate_38 : decode cX6_rate 38 = .ok (.istore 4, 2) := by decide +kernel
theorem dX6_rate_40 : decode cX6_rate 40 = .ok (.iload_n 3, 1) := by decide +kernel
theorem dX6_rate_41 : decode cX6_rate 41 = .ok (.aload_n 0, 1) := by decide +kernel
theorem dX6_rate_42 : decode cX6_rate 42 = .ok (.getfield 29, 3) := by decide +kernel
theorem dX6_rate_45 : decode cX6_rate 45 = .ok (.bipush 14, 2) := by decide +kernel
theorem dX6_rate_47 : decode cX6_rate 47 = .ok (.iload_n 2, 1) := by decide +kernel
theorem dX6_rate_48 : decode cX6_rate 48 = .ok (.iadd, 1) := by decide +kernel
theorem dX6_rate_49 : decode cX6_rate 49 = .ok (.iaload, 1) := by decide +kernel
theorem dX6_rate_50 : decode cX6_rate 50 = .ok (.invokestatic 180, 3) := by decide +kernel
theorem dX6_rate_53 : decode cX6_rate 53 = .ok (.isub, 1) := by decide +kernel
theorem dX6_rate_54 : decode cX6_rate 54 = .ok (.istore 5, 2) := by decide +kernel
theorem dX6_rate_56 : decode cX6_rate 56 = .ok (.iload_n 1, 1) := by decide +kernel
theorem dX6_rate_57 : decode cX6_rate 57 = .ok (.tableswitch 120 1 5 #[35, 50, 65, 82, 99], 35) := by decide +kernel
theorem dX6_rate_92 : decode cX6_rate 92 = .ok (.aload_n 0, 1) := by decide +kernel
theorem dX6_rate_93 : decode cX6_rate 93 = .ok (.dup, 1) := by decide +kernel
theorem dX6_rate_94 : decode cX6_rate 94 = .ok (.getfield 214, 3) := by decide +kernel
theorem dX6_rate_97 : decode cX6_rate 97 = .ok (.ldc2_w 218, 3) := by decide +kernel
theorem dX6_rate_100 : decode cX6_rate 100 = .ok (.ladd, 1) := by decide +kernel
theorem dX6_rate_101 : decode cX6_rate 101 = .ok (.putfield 214, 3) := by decide +kernel
theorem dX6_rate_104 : decode cX6_rate 104 = .ok (.iload 4, 2) := by decide +kernel
theorem dX6_rate_106 : decode cX6_rate 106 = .ok (.ireturn, 1) := by decide +kernel
theorem dX6_rate_107 : decode cX6_rate 107 = .ok (.aload_n 0, 1) := by decide +kernel
theorem dX6_rate_108 : decode cX6_rate 108 = .ok (.dup, 1) := by decide +kernel
theorem dX6_rate_109 : decode cX6_rate 109 = .ok (.getfield 214, 3) := by decide +kernel
theorem dX6_rate_112 : decode cX6_rate 112 = .ok (.ldc2_w 220, 3) := by decide +kernel
theorem dX6_rate_115 : decode cX6_rate 115 = .ok (.ladd, 1) := by decide +kernel
theorem dX6_rate_116 : decode cX6_rate 116 = .ok (.putfield 214, 3) := by decide +kernel
theorem dX6_rate_119 : decode cX6_rate 119 = .ok (.iload 5, 2) := by decide +kernel
theorem dX6_rate_121 : decode cX6_rate 121 = .ok (.ireturn, 1) := by decide +kernel
theorem dX6_rate_122 : decode cX6_rate 122 = .ok (.aload_n 0, 1) := by decide +kernel
theorem dX6_rate_123 : decode cX6_rate 123 = .ok (.dup, 1) := by decide +kernel
theorem dX6_rate_124 : decode cX6_rate 124 = .ok (.getfield 214, 3) := by decide +kernel
theorem dX6_rate_127 : decode cX6_rate 127 = .ok (.ldc2_w 222, 3) := by decide +kernel
theorem dX6_rate_130 : decode cX6_rate 130 = .ok (.ladd, 1) := by decide +kernel
theorem dX6_rate_131 : decode cX6_rate 131 = .ok (.putfield 214, 3) := by decide +kernel
theorem dX6_rate_134 : decode cX6_rate 134 = .ok (.iconst 2, 1) := by decide +kernel
theorem dX6_rate_135 : decode cX6_rate 135 = .ok (.iload 4, 2) := by decide +kernel
theorem dX6_rate_137 : decode cX6_rate 137 = .ok (.imul, 1) := by decide +kernel
theorem dX6_rate_138 : decode cX6_rate 138 = .ok (.ireturn, 1) := by decide +kernel
theorem dX6_rate_139 : decode cX6_rate 139 = .ok (.aload_n 0, 1) := by decide +kernel
theorem dX6_rate_140 : decode cX6_rate 140 = .ok (.dup, 1) := by decide +kernel
theorem dX6_rate_141 : decode cX6_rate 141 = .ok (.getfield 214, 3) := by decide +kernel
theorem dX6_rate_144 : decode cX6_rate 144 = .ok (.ldc2_w 224, 3) := by decide +kernel
theorem dX6_rate_147 : decode cX6_rate 147 = .ok (.ladd, 1) := by decide +kernel
theorem dX6_rate_148 : decode cX6_rate 148 = .ok (.putfield 214, 3) := by decide +kernel
theorem dX6_rate_151 : decode cX6_rate 151 = .ok (.iload 5, 2) := by decide +kernel
theorem dX6_rate_153 : decode cX6_rate 153 = .ok (.iload_n 2, 1) := by decide +kernel
theorem dX6_rate_154 : decode cX6_rate 154 = .ok (.iadd, 1) := by decide +kernel
theorem dX6_rate_155 : decode cX6_rate 155 = .ok (.ireturn, 1) := by decide +kernel
theorem dX6_rate_156 : decode cX6_rate 156 = .ok (.aload_n 0, 1) := by decide +kernel
theorem dX6_rate_157 : decode cX6_rate 157 = .ok (.dup, 1) := by decide +kernel
theorem dX6_rate_158 : decode cX6_rate 158 = .ok (.getfield 214, 3) := by decide +kernel
theorem dX6_rate_161 : decode cX6_rate 161 = .ok (.ldc2_w 226, 3) := by decide +kernel
theorem dX6_rate_164 : decode cX6_rate 164 = .ok (.ladd, 1) := by decide +kernel
theorem dX6_rate_165 : decode cX6_rate 165 = .ok (.putfield 214, 3) := by decide +kernel
theorem dX6_rate_168 : decode cX6_rate 168 = .ok (.iload_n 3, 1) := by decide +kernel
theorem dX6_rate_169 : decode cX6_rate 169 = .ok (.aload_n 0, 1) := by decide +kernel
theorem dX6_rate_170 : decode cX6_rate 170 = .ok (.getfield 29, 3) := by decide +kernel
theorem dX6_rate_173 : decode cX6_rate 173 = .ok (.iconst 1, 1) := by decide +kernel
theorem dX6_rate_174 : decode cX6_rate 174 = .ok (.iaload, 1) := by decide +kernel
theorem dX6_rate_175 : decode cX6_rate 175 = .ok (.iadd, 1) := by decide +kernel
theorem dX6_rate_176 : decode cX6_rate 176 = .ok (.ireturn, 1) := by decide +kernel
theorem dX6_rate_177 : decode cX6_rate 177 = .ok (.aload_n 0, 1) := by decide +kernel
theorem dX6_rate_178 : decode cX6_rate 178 = .ok (.dup, 1) := by decide +kernel
theorem dX6_rate_179 : decode cX6_rate 179 = .ok (.getfield 214, 3) := by decide +kernel
theorem dX6_rate_182 : decode cX6_rate 182 = .ok (.lconst 1, 1) := by decide +kernel
theorem dX6_rate_183 : decode cX6_rate 183 = .ok (.ladd, 1) := by decide +kernel
theorem dX6_rate_184 : decode cX6_rate 184 = .ok (.putfield 214, 3) := by decide +kernel
theorem dX6_rate_187 : decode cX6_rate 187 = .ok (.iload_n 3, 1) := by decide +kernel
theorem dX6_rate_188 : decode cX6_rate 188 = .ok (.ireturn, 1) := by decide +kernel
theorem dX6_keep_0 : decode cX6_keep 0 = .ok (.iload_n 1, 1) := by decide +kernel
theorem dX6_keep_1 : decode cX6_keep 1 = .ok (.iconst 0, 1) := by decide +kernel
theorem dX6_keep_2 : decode cX6_keep 2 = .ok (.iconst 1, 1) := by decide +kernel
theorem dX6_keep_3 : decode cX6_keep 3 = .ok (.invokestatic 63, 3) := by decide +kernel
theorem dX6_keep_6 : decode cX6_keep 6 = .ok (.ifCond .ne 5, 3) := by decide +kernel
theorem dX6_keep_9 : decode cX6_keep 9 = .ok (.iconst (-1), 1) := by decide +kernel
theorem dX6_keep_10 : decode cX6_keep 10 = .ok (.ireturn, 1) := by decide +kernel
theorem dX6_keep_11 : decode cX6_keep 11 = .ok (.aload_n 0, 1) := by decide +kernel
theorem dX6_keep_12 : decode cX6_keep 12 = .ok (.getfield 35, 3) := by decide +kernel
theorem dX6_keep_15 : decode cX6_keep 15 = .ok (.bipush 26, 2) := by decide +kernel
theorem dX6_keep_17 : decode cX6_keep 17 = .ok (.iload_n 1, 1) := by decide +kernel
theorem dX6_keep_18 : decode cX6_keep 18 = .ok (.imul, 1) := by decide +kernel
theorem dX6_keep_19 : decode cX6_keep 19 = .ok (.aload_n 0, 1) := by decide +kernel
theorem dX6_keep_20 : decode cX6_keep 20 = .ok (.getfield 29, 3) := by decide +kernel
theorem dX6_keep_23 : decode cX6_keep 23 = .ok (.iconst 0, 1) := by decide +kernel
theorem dX6_keep_24 : decode cX6_keep 24 = .ok (.invokestatic 135, 3) := by decide +kernel
theorem dX6_keep_27 : decode cX6_keep 27 = .ok (.aload_n 0, 1) := by decide +kernel
theorem dX6_keep_28 : decode cX6_keep 28 = .ok (.getfield 38, 3) := by decide +kernel
theorem dX6_keep_31 : decode cX6_keep 31 = .ok (.iload_n 1, 1) := by decide +kernel
theorem dX6_keep_32 : decode cX6_keep 32 = .ok (.iconst 1, 1) := by decide +kernel
theorem dX6_keep_33 : decode cX6_keep 33 = .ok (.bastore, 1) := by decide +kernel
theorem dX6_keep_34 : decode cX6_keep 34 = .ok (.aload_n 0, 1) := by decide +kernel
theorem dX6_keep_35 : decode cX6_keep 35 = .ok (.getfield 29, 3) := by decide +kernel
theorem dX6_keep_38 : decode cX6_keep 38 = .ok (.iconst 0, 1) := by decide +kernel
theorem dX6_keep_39 : decode cX6_keep 39 = .ok (.iaload, 1) := by decide +kernel
theorem dX6_keep_40 : decode cX6_keep 40 = .ok (.ireturn, 1) := by decide +kernel
theorem dX6_back_0 : decode cX6_back 0 = .ok (.iload_n 1, 1) := by decide +kernel
theorem dX6_back_1 : decode cX6_back 1 = .ok (.iconst 0, 1) := by decide +kernel
theorem dX6_back_2 : decode cX6_back 2 = .ok (.iconst 1, 1) := by decide +kernel
theorem dX6_back_3 : decode cX6_back 3 = .ok (.invokestatic 63, 3) := by decide +kernel
theorem dX6_back_6 : decode cX6_back 6 = .ok (.ifCond .ne 5, 3) := by decide +kernel
theorem dX6_back_9 : decode cX6_back 9 = .ok (.iconst (-1), 1) := by decide +kernel
theorem dX6_back_10 : decode cX6_back 10 = .ok (.ireturn, 1) := by decide +kernel
theorem dX6_back_11 : decode cX6_back 11 = .ok (.aload_n 0, 1) := by decide +kernel
theorem dX6_back_12 : decode cX6_back 12 = .ok (.getfield 38, 3) := by decide +kernel
theorem dX6_back_15 : decode cX6_back 15 = .ok (.iload_n 1, 1) := by decide +kernel
theorem dX6_back_16 : decode cX6_back 16 = .ok (.baload, 1) := by decide +kernel
theorem dX6_back_17 : decode cX6_back 17 = .ok (.ifCond .ne 6, 3) := by decide +kernel
theorem dX6_back_20 : decode cX6_back 20 = .ok (.bipush (-2), 2) := by decide +kernel
theorem dX6_back_22 : decode cX6_back 22 = .ok (.ireturn, 1) := by decide +kernel
theorem dX6_back_23 : decode cX6_back 23 = .ok (.aload_n 0, 1) := by decide +kernel
theorem dX6_back_24 : decode cX6_back 24 = .ok (.getfield 29, 3) := by decide +kernel
theorem dX6_back_27 : decode cX6_back 27 = .ok (.iconst 0, 1) := by decide +kernel
theorem dX6_back_28 : decode cX6_back 28 = .ok (.aload_n 0, 1) := by decide +kernel
theorem dX6_back_29 : decode cX6_back 29 = .ok (.getfield 35, 3) := by decide +kernel
theorem dX6_back_32 : decode cX6_back 32 = .ok (.bipush 26, 2) := by decide +kernel
theorem dX6_back_34 : decode cX6_back 34 = .ok (.iload_n 1, 1) := by decide +kernel
theorem dX6_back_35 : decode cX6_back 35 = .ok (.imul, 1) := by decide +kernel
theorem dX6_back_36 : decode cX6_back 36 = .ok (.invokestatic 135, 3) := by decide +kernel
theorem dX6_back_39 : decode cX6_back 39 = .ok (.aload_n 0, 1) := by decide +kernel
theorem dX6_back_40 : decode cX6_back 40 = .ok (.iconst 0, 1) := by decide +kernel
theorem dX6_back_41 : decode cX6_back 41 = .ok (.putfield 129, 3) := by decide +kernel
theorem dX6_back_44 : decode cX6_back 44 = .ok (.aload_n 0, 1) := by decide +kernel
theorem dX6_back_45 : decode cX6_back 45 = .ok (.getfield 29, 3) := by decide +kernel
theorem dX6_back_48 : decode cX6_back 48 = .ok (.iconst 0, 1) := by decide +kernel
theorem dX6_back_49 : decode cX6_back 49 = .ok (.iaload, 1) := by decide +kernel
theorem dX6_back_50 : decode cX6_back 50 = .ok (.ireturn, 1) := by decide +kernel
theorem dX6_count_0 : decode cX6_count 0 = .ok (.iload_n 1, 1) := by decide +kernel
theorem dX6_count_1 : decode cX6_count 1 = .ok (.tableswitch 69 0 5 #[39, 44, 49, 54, 59, 64], 39) := by decide +kernel
theorem dX6_count_40 : decode cX6_count 40 = .ok (.aload_n 0, 1) := by decide +kernel
theorem dX6_count_41 : decode cX6_count 41 = .ok (.getfield 60, 3) := by decide +kernel
theorem dX6_count_44 : decode cX6_count 44 = .ok (.ireturn, 1) := by decide +kernel
theorem dX6_count_45 : decode cX6_count 45 = .ok (.aload_n 0, 1) := by decide +kernel
theorem dX6_count_46 : decode cX6_count 46 = .ok (.getfield 19, 3) := by decide +kernel
theorem dX6_count_49 : decode cX6_count 49 = .ok (.ireturn, 1) := by decide +kernel
theorem dX6_count_50 : decode cX6_count 50 = .ok (.aload_n 0, 1) := by decide +kernel
theorem dX6_count_51 : decode cX6_count 51 = .ok (.getfield 23, 3) := by decide +kernel
theorem dX6_count_54 : decode cX6_count 54 = .ok (.ireturn, 1) := by decide +kernel
theorem dX6_count_55 : decode cX6_count 55 = .ok (.aload_n 0, 1) := by decide +kernel
theorem dX6_count_56 : decode cX6_count 56 = .ok (.getfield 26, 3) := by decide +kernel
theorem dX6_count_59 : decode cX6_count 59 = .ok (.ireturn, 1) := by decide +kernel
theorem dX6_count_60 : decode cX6_count 60 = .ok (.aload_n 0, 1) := by decide +kernel
theorem dX6_count_61 : decode cX6_count 61 = .ok (.getfield 132, 3) := by decide +kernel
theorem dX6_count_64 : decode cX6_count 64 = .ok (.ireturn, 1) := by decide +kernel
theorem dX6_count_65 : decode cX6_count 65 = .ok (.aload_n 0, 1) := by decide +kernel
theorem dX6_count_66 : decode cX6_count 66 = .ok (.getfield 67, 3) := by decide +kernel
theorem dX6_count_69 : decode cX6_count 69 = .ok (.ireturn, 1) := by decide +kernel
theorem dX6_count_70 : decode cX6_count 70 = .ok (.iconst (-1), 1) := by decide +kernel
theorem dX6_count_71 : decode cX6_count 71 = .ok (.ireturn, 1) := by decide +kernel
theorem dX6_trace_0 : decode cX6_trace 0 = .ok (.aload_n 0, 1) := by decide +kernel
theorem dX6_trace_1 : decode cX6_trace 1 = .ok (.getfield 214, 3) := by decide +kernel
theorem dX6_trace_4 : decode cX6_trace 4 = .ok (.lreturn, 1) := by decide +kernel
theorem dJ6_bitCount_0f7a4_0 : decode cJ6_bitCount_0f7a4 0 = .ok (.iload_n 0, 1) := by decide +kernel
theorem dJ6_bitCount_0f7a4_1 : decode cJ6_bitCount_0f7a4 1 = .ok (.iload_n 0, 1) := by decide +kernel
theorem dJ6_bitCount_0f7a4_2 : decode cJ6_bitCount_0f7a4 2 = .ok (.iconst 1, 1) := by decide +kernel
theorem dJ6_bitCount_0f7a4_3 : decode cJ6_bitCount_0f7a4 3 = .ok (.iushr, 1) := by decide +kernel
theorem dJ6_bitCount_0f7a4_4 : decode cJ6_bitCount_0f7a4 4 = .ok (.ldc_w 265, 3) := by decide +kernel
theorem dJ6_bitCount_0f7a4_7 : decode cJ6_bitCount_0f7a4 7 = .ok (.iand, 1) := by decide +kernel
theorem dJ6_bitCount_0f7a4_8 : decode cJ6_bitCount_0f7a4 8 = .ok (.isub, 1) := by decide +kernel
theorem dJ6_bitCount_0f7a4_9 : decode cJ6_bitCount_0f7a4 9 = .ok (.istore_n 0, 1) := by decide +kernel
theorem dJ6_bitCount_0f7a4_10 : decode cJ6_bitCount_0f7a4 10 = .ok (.iload_n 0, 1) := by decide +kernel
theorem dJ6_bitCount_0f7a4_11 : decode cJ6_bitCount_0f7a4 11 = .ok (.ldc_w 266, 3) := by decide +kernel
theorem dJ6_bitCount_0f7a4_14 : decode cJ6_bitCount_0f7a4 14 = .ok (.iand, 1) := by decide +kernel
theorem dJ6_bitCount_0f7a4_15 : decode cJ6_bitCount_0f7a4 15 = .ok (.iload_n 0, 1) := by decide +kernel
theorem dJ6_bitCount_0f7a4_16 : decode cJ6_bitCount_0f7a4 16 = .ok (.iconst 2, 1) := by decide +kernel
theorem dJ6_bitCount_0f7a4_17 : decode cJ6_bitCount_0f7a4 17 = .ok (.iushr, 1) := by decide +kernel
theorem dJ6_bitCount_0f7a4_18 : decode cJ6_bitCount_0f7a4 18 = .ok (.ldc_w 266, 3) := by decide +kernel
theorem dJ6_bitCount_0f7a4_21 : decode cJ6_bitCount_0f7a4 21 = .ok (.iand, 1) := by decide +kernel
theorem dJ6_bitCount_0f7a4_22 : decode cJ6_bitCount_0f7a4 22 = .ok (.iadd, 1) := by decide +kernel
theorem dJ6_bitCount_0f7a4_23 : decode cJ6_bitCount_0f7a4 23 = .ok (.istore_n 0, 1) := by decide +kernel
theorem dJ6_bitCount_0f7a4_24 : decode cJ6_bitCount_0f7a4 24 = .ok (.iload_n 0, 1) := by decide +kernel
theorem dJ6_bitCount_0f7a4_25 : decode cJ6_bitCount_0f7a4 25 = .ok (.iload_n 0, 1) := by decide +kernel
theorem dJ6_bitCount_0f7a4_26 : decode cJ6_bitCount_0f7a4 26 = .ok (.iconst 4, 1) := by decide +kernel
theorem dJ6_bitCount_0f7a4_27 : decode cJ6_bitCount_0f7a4 27 = .ok (.iushr, 1) := by decide +kernel
theorem dJ6_bitCount_0f7a4_28 : decode cJ6_bitCount_0f7a4 28 = .ok (.iadd, 1) := by decide +kernel
theorem dJ6_bitCount_0f7a4_29 : decode cJ6_bitCount_0f7a4 29 = .ok (.ldc_w 267, 3) := by decide +kernel
theorem dJ6_bitCount_0f7a4_32 : decode cJ6_bitCount_0f7a4 32 = .ok (.iand, 1) := by decide +kernel
theorem dJ6_bitCount_0f7a4_33 : decode cJ6_bitCount_0f7a4 33 = .ok (.istore_n 0, 1) := by decide +kernel
theorem dJ6_bitCount_0f7a4_34 : decode cJ6_bitCount_0f7a4 34 = .ok (.iload_n 0, 1) := by decide +kernel
theorem dJ6_bitCount_0f7a4_35 : decode cJ6_bitCount_0f7a4 35 = .ok (.iload_n 0, 1) := by decide +kernel
theorem dJ6_bitCount_0f7a4_36 : decode cJ6_bitCount_0f7a4 36 = .ok (.bipush 8, 2) := by decide +kernel
theorem dJ6_bitCount_0f7a4_38 : decode cJ6_bitCount_0f7a4 38 = .ok (.iushr, 1) := by decide +kernel
theorem dJ6_bitCount_0f7a4_39 : decode cJ6_bitCount_0f7a4 39 = .ok (.iadd, 1) := by decide +kernel
theorem dJ6_bitCount_0f7a4_40 : decode cJ6_bitCount_0f7a4 40 = .ok (.istore_n 0, 1) := by decide +kernel
theorem dJ6_bitCount_0f7a4_41 : decode cJ6_bitCount_0f7a4 41 = .ok (.iload_n 0, 1) := by decide +kernel
theorem dJ6_bitCount_0f7a4_42 : decode cJ6_bitCount_0f7a4 42 = .ok (.iload_n 0, 1) := by decide +kernel
theorem dJ6_bitCount_0f7a4_43 : decode cJ6_bitCount_0f7a4 43 = .ok (.bipush 16, 2) := by decide +kernel
theorem dJ6_bitCount_0f7a4_45 : decode cJ6_bitCount_0f7a4 45 = .ok (.iushr, 1) := by decide +kernel
theorem dJ6_bitCount_0f7a4_46 : decode cJ6_bitCount_0f7a4 46 = .ok (.iadd, 1) := by decide +kernel
theorem dJ6_bitCount_0f7a4_47 : decode cJ6_bitCount_0f7a4 47 = .ok (.istore_n 0, 1) := by decide +kernel
theorem dJ6_bitCount_0f7a4_48 : decode cJ6_bitCount_0f7a4 48 = .ok (.iload_n 0, 1) := by decide +kernel
theorem dJ6_bitCount_0f7a4_49 : decode cJ6_bitCount_0f7a4 49 = .ok (.bipush 63, 2) := by decide +kernel
theorem dJ6_bitCount_0f7a4_51 : decode cJ6_bitCount_0f7a4 51 = .ok (.iand, 1) := by decide +kernel
theorem dJ6_bitCount_0f7a4_52 : decode cJ6_bitCount_0f7a4 52 = .ok (.ireturn, 1) := by decide +kernel
theorem dJ13_bitCount_95d88_0 : decode cJ13_bitCount_95d88 0 = .ok (.lload_n 0, 1) := by decide +kernel
theorem dJ13_bitCount_95d88_1 : decode cJ13_bitCount_95d88 1 = .ok (.lload_n 0, 1) := by decide +kernel
theorem dJ13_bitCount_95d88_2 : decode cJ13_bitCount_95d88 2 = .ok (.iconst 1, 1) := by decide +kernel
theorem dJ13_bitCount_95d88_3 : decode cJ13_bitCount_95d88 3 = .ok (.lushr, 1) := by decide +kernel
theorem dJ13_bitCount_95d88_4 : decode cJ13_bitCount_95d88 4 = .ok (.ldc2_w 314, 3) := by decide +kernel
theorem dJ13_bitCount_95d88_7 : decode cJ13_bitCount_95d88 7 = .ok (.land, 1) := by decide +kernel
theorem dJ13_bitCount_95d88_8 : decode cJ13_bitCount_95d88 8 = .ok (.lsub, 1) := by decide +kernel
theorem dJ13_bitCount_95d88_9 : decode cJ13_bitCount_95d88 9 = .ok (.lstore_n 0, 1) := by decide +kernel
theorem dJ13_bitCount_95d88_10 : decode cJ13_bitCount_95d88 10 = .ok (.lload_n 0, 1) := by decide +kernel
theorem dJ13_bitCount_95d88_11 : decode cJ13_bitCount_95d88 11 = .ok (.ldc2_w 316, 3) := by decide +kernel
theorem dJ13_bitCount_95d88_14 : decode cJ13_bitCount_95d88 14 = .ok (.land, 1) := by decide +kernel
theorem dJ13_bitCount_95d88_15 : decode cJ13_bitCount_95d88 15 = .ok (.lload_n 0, 1) := by decide +kernel
theorem dJ13_bitCount_95d88_16 : decode cJ13_bitCount_95d88 16 = .ok (.iconst 2, 1) := by decide +kernel
theorem dJ13_bitCount_95d88_17 : decode cJ13_bitCount_95d88 17 = .ok (.lushr, 1) := by decide +kernel
theorem dJ13_bitCount_95d88_18 : decode cJ13_bitCount_95d88 18 = .ok (.ldc2_w 316, 3) := by decide +kernel
theorem dJ13_bitCount_95d88_21 : decode cJ13_bitCount_95d88 21 = .ok (.land, 1) := by decide +kernel
theorem dJ13_bitCount_95d88_22 : decode cJ13_bitCount_95d88 22 = .ok (.ladd, 1) := by decide +kernel
theorem dJ13_bitCount_95d88_23 : decode cJ13_bitCount_95d88 23 = .ok (.lstore_n 0, 1) := by decide +kernel
theorem dJ13_bitCount_95d88_24 : decode cJ13_bitCount_95d88 24 = .ok (.lload_n 0, 1) := by decide +kernel
theorem dJ13_bitCount_95d88_25 : decode cJ13_bitCount_95d88 25 = .ok (.lload_n 0, 1) := by decide +kernel
theorem dJ13_bitCount_95d88_26 : decode cJ13_bitCount_95d88 26 = .ok (.iconst 4, 1) := by decide +kernel
theorem dJ13_bitCount_95d88_27 : decode cJ13_bitCount_95d88 27 = .ok (.lushr, 1) := by decide +kernel
theorem dJ13_bitCount_95d88_28 : decode cJ13_bitCount_95d88 28 = .ok (.ladd, 1) := by decide +kernel
theorem dJ13_bitCount_95d88_29 : decode cJ13_bitCount_95d88 29 = .ok (.ldc2_w 318, 3) := by decide +kernel
theorem dJ13_bitCount_95d88_32 : decode cJ13_bitCount_95d88 32 = .ok (.land, 1) := by decide +kernel
theorem dJ13_bitCount_95d88_33 : decode cJ13_bitCount_95d88 33 = .ok (.lstore_n 0, 1) := by decide +kernel
theorem dJ13_bitCount_95d88_34 : decode cJ13_bitCount_95d88 34 = .ok (.lload_n 0, 1) := by decide +kernel
theorem dJ13_bitCount_95d88_35 : decode cJ13_bitCount_95d88 35 = .ok (.lload_n 0, 1) := by decide +kernel
theorem dJ13_bitCount_95d88_36 : decode cJ13_bitCount_95d88 36 = .ok (.bipush 8, 2) := by decide +kernel
theorem dJ13_bitCount_95d88_38 : decode cJ13_bitCount_95d88 38 = .ok (.lushr, 1) := by decide +kernel
theorem dJ13_bitCount_95d88_39 : decode cJ13_bitCount_95d88 39 = .ok (.ladd, 1) := by decide +kernel
theorem dJ13_bitCount_95d88_40 : decode cJ13_bitCount_95d88 40 = .ok (.lstore_n 0, 1) := by decide +kernel
theorem dJ13_bitCount_95d88_41 : decode cJ13_bitCount_95d88 41 = .ok (.lload_n 0, 1) := by decide +kernel
theorem dJ13_bitCount_95d88_42 : decode cJ13_bitCount_95d88 42 = .ok (.lload_n 0, 1) := by decide +kernel
theorem dJ13_bitCount_95d88_43 : decode cJ13_bitCount_95d88 43 = .ok (.bipush 16, 2) := by decide +kernel
theorem dJ13_bitCount_95d88_45 : decode cJ13_bitCount_95d88 45 = .ok (.lushr, 1) := by decide +kernel
theorem dJ13_bitCount_95d88_46 : decode cJ13_bitCount_95d88 46 = .ok (.ladd, 1) := by decide +kernel
theorem dJ13_bitCount_95d88_47 : decode cJ13_bitCount_95d88 47 = .ok (.lstore_n 0, 1) := by decide +kernel
theorem dJ13_bitCount_95d88_48 : decode cJ13_bitCount_95d88 48 = .ok (.lload_n 0, 1) := by decide +kernel
theorem dJ13_bitCount_95d88_49 : decode cJ13_bitCount_95d88 49 = .ok (.lload_n 0, 1) := by decide +kernel
theorem dJ13_bitCount_95d88_50 : decode cJ13_bitCount_95d88 50 = .ok (.bipush 32, 2) := by decide +kernel
theorem dJ13_bitCount_95d88_52 : decode cJ13_bitCount_95d88 52 = .ok (.lushr, 1) := by decide +kernel
theorem dJ13_bitCount_95d88_53 : decode cJ13_bitCount_95d88 53 = .ok (.ladd, 1) := by decide +kernel
theorem dJ13_bitCount_95d88_54 : decode cJ13_bitCount_95d88 54 = .ok (.lstore_n 0, 1) := by decide +kernel
theorem dJ13_bitCount_95d88_55 : decode cJ13_bitCount_95d88 55 = .ok (.lload_n 0, 1) := by decide +kernel
theorem dJ13_bitCount_95d88_56 : decode cJ13_bitCount_95d88 56 = .ok (.l2i, 1) := by decide +kernel
theorem dJ13_bitCount_95d88_57 : decode cJ13_bitCount_95d88 57 = .ok (.bipush 127, 2) := by decide +kernel
theorem dJ13_bitCount_95d88_59 : decode cJ13_bitCount_95d88 59 = .ok (.iand, 1) := by decide +kernel
theorem dJ13_bitCount_95d88_60 : decode cJ13_bitCount_95d88 60 = .ok (.ireturn, 1) := by decide +kernel
theorem dJ9_abs_0f7a4_0 : decode cJ9_abs_0f7a4 0 = .ok (.iload_n 0, 1) := by decide +kernel
theorem dJ9_abs_0f7a4_1 : decode cJ9_abs_0f7a4 1 = .ok (.ifCond .ge 8, 3) := by decide +kernel
theorem dJ9_abs_0f7a4_4 : decode cJ9_abs_0f7a4 4 = .ok (.iload_n 0, 1) := by decide +kernel
theorem dJ9_abs_0f7a4_5 : decode cJ9_abs_0f7a4 5 = .ok (.ineg, 1) := by decide +kernel
theorem dJ9_abs_0f7a4_6 : decode cJ9_abs_0f7a4 6 = .ok (.goto 4, 3) := by decide +kernel
theorem dJ9_abs_0f7a4_9 : decode cJ9_abs_0f7a4 9 = .ok (.iload_n 0, 1) := by decide +kernel
theorem dJ9_abs_0f7a4_10 : decode cJ9_abs_0f7a4 10 = .ok (.ireturn, 1) := by decide +kernel
theorem dJ9_max_7cf53_0 : decode cJ9_max_7cf53 0 = .ok (.iload_n 0, 1) := by decide +kernel
theorem dJ9_max_7cf53_1 : decode cJ9_max_7cf53 1 = .ok (.iload_n 1, 1) := by decide +kernel
theorem dJ9_max_7cf53_2 : decode cJ9_max_7cf53 2 = .ok (.if_icmp .lt 7, 3) := by decide +kernel
theorem dJ9_max_7cf53_5 : decode cJ9_max_7cf53 5 = .ok (.iload_n 0, 1) := by decide +kernel
theorem dJ9_max_7cf53_6 : decode cJ9_max_7cf53 6 = .ok (.goto 4, 3) := by decide +kernel
theorem dJ9_max_7cf53_9 : decode cJ9_max_7cf53 9 = .ok (.iload_n 1, 1) := by decide +kernel
theorem dJ9_max_7cf53_10 : decode cJ9_max_7cf53 10 = .ok (.ireturn, 1) := by decide +kernel
theorem dJ9_min_7cf53_0 : decode cJ9_min_7cf53 0 = .ok (.iload_n 0, 1) := by decide +kernel
theorem dJ9_min_7cf53_1 : decode cJ9_min_7cf53 1 = .ok (.iload_n 1, 1) := by decide +kernel
theorem dJ9_min_7cf53_2 : decode cJ9_min_7cf53 2 = .ok (.if_icmp .gt 7, 3) := by decide +kernel
theorem dJ9_min_7cf53_5 : decode cJ9_min_7cf53 5 = .ok (.iload_n 0, 1) := by decide +kernel
theorem dJ9_min_7cf53_6 : decode cJ9_min_7cf53 6 = .ok (.goto 4, 3) := by decide +kernel
theorem dJ9_min_7cf53_9 : decode cJ9_min_7cf53 9 = .ok (.iload_n 1, 1) := by decide +kernel
theorem dJ9_min_7cf53_10 : decode cJ9_min_7cf53 10 = .ok (.ireturn, 1) := by decide +kernel
theorem dL_law_0 : decode cL_law 0 = .ok (.new 7, 3) := by decide +kernel
theorem dL_law_3 : decode cL_law 3 = .ok (.dup, 1) := by decide +kernel
theorem dL_law_4 : decode cL_law 4 = .ok (.invokespecial 9, 3) := by decide +kernel
theorem dL_law_7 : decode cL_law 7 = .ok (.astore_n 1, 1) := by decide +kernel
theorem dL_law_8 : decode cL_law 8 = .ok (.new 10, 3) := by decide +kernel
theorem dL_law_11 : decode cL_law 11 = .ok (.dup, 1) := by decide +kernel
theorem dL_law_12 : decode cL_law 12 = .ok (.invokespecial 12, 3) := by decide +kernel
theorem dL_law_15 : decode cL_law 15 = .ok (.astore_n 2, 1) := by decide +kernel
theorem dL_law_16 : decode cL_law 16 = .ok (.iconst 0, 1) := by decide +kernel
theorem dL_law_17 : decode cL_law 17 = .ok (.istore_n 3, 1) := by decide +kernel
theorem dL_law_18 : decode cL_law 18 = .ok (.iload_n 3, 1) := by decide +kernel
theorem dL_law_19 : decode cL_law 19 = .ok (.aload_n 0, 1) := by decide +kernel
theorem dL_law_20 : decode cL_law 20 = .ok (.arraylength, 1) := by decide +kernel
theorem dL_law_21 : decode cL_law 21 = .ok (.iconst 4, 1) := by decide +kernel
theorem dL_law_22 : decode cL_law 22 = .ok (.isub, 1) := by decide +kernel
theorem dL_law_23 : decode cL_law 23 = .ok (.if_icmp .gt 838, 3) := by decide +kernel
theorem dL_law_26 : decode cL_law 26 = .ok (.aload_n 0, 1) := by decide +kernel
theorem dL_law_27 : decode cL_law 27 = .ok (.iload_n 3, 1) := by decide +kernel
theorem dL_law_28 : decode cL_law 28 = .ok (.iaload, 1) := by decide +kernel
theorem dL_law_29 : decode cL_law 29 = .ok (.bipush 31, 2) := by decide +kernel
theorem dL_law_31 : decode cL_law 31 = .ok (.iand, 1) := by decide +kernel
theorem dL_law_32 : decode cL_law 32 = .ok (.tableswitch 823 0 27 #[128, 151, 164, 177, 210, 233, 256, 279, 292, 315, 338, 361, 374, 407, 430, 463, 496, 519, 552, 595, 638, 651, 684, 707, 740, 763, 786, 809], 128) := by decide +kernel
theorem dL_law_160 : decode cL_law 160 = .ok (.aload_n 1, 1) := by decide +kernel
theorem dL_law_161 : decode cL_law 161 = .ok (.aload_n 0, 1) := by decide +kernel
theorem dL_law_162 : decode cL_law 162 = .ok (.iload_n 3, 1) := by decide +kernel
theorem dL_law_163 : decode cL_law 163 = .ok (.iconst 1, 1) := by decide +kernel
theorem dL_law_164 : decode cL_law 164 = .ok (.iadd, 1) := by decide +kernel
theorem dL_law_165 : decode cL_law 165 = .ok (.iaload, 1) := by decide +kernel
theorem dL_law_166 : decode cL_law 166 = .ok (.invokevirtual 13, 3) := by decide +kernel
theorem dL_law_169 : decode cL_law 169 = .ok (.aload_n 2, 1) := by decide +kernel
theorem dL_law_170 : decode cL_law 170 = .ok (.aload_n 0, 1) := by decide +kernel
theorem dL_law_171 : decode cL_law 171 = .ok (.iload_n 3, 1) := by decide +kernel
theorem dL_law_172 : decode cL_law 172 = .ok (.iconst 1, 1) := by decide +kernel
theorem dL_law_173 : decode cL_law 173 = .ok (.iadd, 1) := by decide +kernel
theorem dL_law_174 : decode cL_law 174 = .ok (.iaload, 1) := by decide +kernel
theorem dL_law_175 : decode cL_law 175 = .ok (.invokevirtual 17, 3) := by decide +kernel
theorem dL_law_178 : decode cL_law 178 = .ok (.if_icmp .eq 677, 3) := by decide +kernel
theorem dL_law_181 : decode cL_law 181 = .ok (.iconst 0, 1) := by decide +kernel
theorem dL_law_182 : decode cL_law 182 = .ok (.ireturn, 1) := by decide +kernel
theorem dL_law_183 : decode cL_law 183 = .ok (.aload_n 1, 1) := by decide +kernel
theorem dL_law_184 : decode cL_law 184 = .ok (.invokevirtual 18, 3) := by decide +kernel
theorem dL_law_187 : decode cL_law 187 = .ok (.aload_n 2, 1) := by decide +kernel
theorem dL_law_188 : decode cL_law 188 = .ok (.invokevirtual 22, 3) := by decide +kernel
theorem dL_law_191 : decode cL_law 191 = .ok (.if_icmp .eq 664, 3) := by decide +kernel
theorem dL_law_194 : decode cL_law 194 = .ok (.iconst 0, 1) := by decide +kernel
theorem dL_law_195 : decode cL_law 195 = .ok (.ireturn, 1) := by decide +kernel
theorem dL_law_196 : decode cL_law 196 = .ok (.aload_n 1, 1) := by decide +kernel
theorem dL_law_197 : decode cL_law 197 = .ok (.invokevirtual 23, 3) := by decide +kernel
theorem dL_law_200 : decode cL_law 200 = .ok (.aload_n 2, 1) := by decide +kernel
theorem dL_law_201 : decode cL_law 201 = .ok (.invokevirtual 26, 3) := by decide +kernel
theorem dL_law_204 : decode cL_law 204 = .ok (.if_icmp .eq 651, 3) := by decide +kernel
theorem dL_law_207 : decode cL_law 207 = .ok (.iconst 0, 1) := by decide +kernel
theorem dL_law_208 : decode cL_law 208 = .ok (.ireturn, 1) := by decide +kernel
theorem dL_law_209 : decode cL_law 209 = .ok (.aload_n 1, 1) := by decide +kernel
theorem dL_law_210 : decode cL_law 210 = .ok (.aload_n 0, 1) := by decide +kernel
theorem dL_law_211 : decode cL_law 211 = .ok (.iload_n 3, 1) := by decide +kernel
theorem dL_law_212 : decode cL_law 212 = .ok (.iconst 1, 1) := by decide +kernel
theorem dL_law_213 : decode cL_law 213 = .ok (.iadd, 1) := by decide +kernel
theorem dL_law_214 : decode cL_law 214 = .ok (.iaload, 1) := by decide +kernel
theorem dL_law_215 : decode cL_law 215 = .ok (.aload_n 0, 1) := by decide +kernel
theorem dL_law_216 : decode cL_law 216 = .ok (.iload_n 3, 1) := by decide +kernel
theorem dL_law_217 : decode cL_law 217 = .ok (.iconst 2, 1) := by decide +kernel
theorem dL_law_218 : decode cL_law 218 = .ok (.iadd, 1) := by decide +kernel
theorem dL_law_219 : decode cL_law 219 = .ok (.iaload, 1) := by decide +kernel
theorem dL_law_220 : decode cL_law 220 = .ok (.invokevirtual 27, 3) := by decide +kernel
theorem dL_law_223 : decode cL_law 223 = .ok (.aload_n 2, 1) := by decide +kernel
theorem dL_law_224 : decode cL_law 224 = .ok (.aload_n 0, 1) := by decide +kernel
theorem dL_law_225 : decode cL_law 225 = .ok (.iload_n 3, 1) := by decide +kernel
theorem dL_law_226 : decode cL_law 226 = .ok (.iconst 1, 1) := by decide +kernel
theorem dL_law_227 : decode cL_law 227 = .ok (.iadd, 1) := by decide +kernel
theorem dL_law_228 : decode cL_law 228 = .ok (.iaload, 1) := by decide +kernel
theorem dL_law_229 : decode cL_law 229 = .ok (.aload_n 0, 1) := by decide +kernel
theorem dL_law_230 : decode cL_law 230 = .ok (.iload_n 3, 1) := by decide +kernel
theorem dL_law_231 : decode cL_law 231 = .ok (.iconst 2, 1) := by decide +kernel
theorem dL_law_232 : decode cL_law 232 = .ok (.iadd, 1) := by decide +kernel
theorem dL_law_233 : decode cL_law 233 = .ok (.iaload, 1) := by decide +kernel
theorem dL_law_234 : decode cL_law 234 = .ok (.invokevirtual 31, 3) := by decide +kernel
theorem dL_law_237 : decode cL_law 237 = .ok (.if_icmp .eq 618, 3) := by decide +kernel
theorem dL_law_240 : decode cL_law 240 = .ok (.iconst 0, 1) := by decide +kernel
theorem dL_law_241 : decode cL_law 241 = .ok (.ireturn, 1) := by decide +kernel
theorem dL_law_242 : decode cL_law 242 = .ok (.aload_n 1, 1) := by decide +kernel
theorem dL_law_243 : decode cL_law 243 = .ok (.aload_n 0, 1) := by decide +kernel
theorem dL_law_244 : decode cL_law 244 = .ok (.iload_n 3, 1) := by decide +kernel
theorem dL_law_245 : decode cL_law 245 = .ok (.iconst 1, 1) := by decide +kernel
theorem dL_law_246 : decode cL_law 246 = .ok (.iadd, 1) := by decide +kernel
theorem dL_law_247 : decode cL_law 247 = .ok (.iaload, 1) := by decide +kernel
theorem dL_law_248 : decode cL_law 248 = .ok (.invokevirtual 32, 3) := by decide +kernel
theorem dL_law_251 : decode cL_law 251 = .ok (.aload_n 2, 1) := by decide +kernel
theorem dL_law_252 : decode cL_law 252 = .ok (.aload_n 0, 1) := by decide +kernel
theorem dL_law_253 : decode cL_law 253 = .ok (.iload_n 3, 1) := by decide +kernel
theorem dL_law_254 : decode cL_law 254 = .ok (.iconst 1, 1) := by decide +kernel
theorem dL_law_255 : decode cL_law 255 = .ok (.iadd, 1) := by decide +kernel
theorem dL_law_256 : decode cL_law 256 = .ok (.iaload, 1) := by decide +kernel
theorem dL_law_257 : decode cL_law 257 = .ok (.invokevirtual 35, 3) := by decide +kernel
theorem dL_law_260 : decode cL_law 260 = .ok (.if_icmp .eq 595, 3) := by decide +kernel
theorem dL_law_263 : decode cL_law 263 = .ok (.iconst 0, 1) := by decide +kernel
theorem dL_law_264 : decode cL_law 264 = .ok (.ireturn, 1) := by decide +kernel
theorem dL_law_265 : decode cL_law 265 = .ok (.aload_n 1, 1) := by decide +kernel
theorem dL_law_266 : decode cL_law 266 = .ok (.aload_n 0, 1) := by decide +kernel
theorem dL_law_267 : decode cL_law 267 = .ok (.iload_n 3, 1) := by decide +kernel
theorem dL_law_268 : decode cL_law 268 = .ok (.iconst 1, 1) := by decide +kernel
theorem dL_law_269 : decode cL_law 269 = .ok (.iadd, 1) := by decide +kernel
theorem dL_law_270 : decode cL_law 270 = .ok (.iaload, 1) := by decide +kernel
theorem dL_law_271 : decode cL_law 271 = .ok (.invokevirtual 36, 3) := by decide +kernel
theorem dL_law_274 : decode cL_law 274 = .ok (.aload_n 2, 1) := by decide +kernel
theorem dL_law_275 : decode cL_law 275 = .ok (.aload_n 0, 1) := by decide +kernel
theorem dL_law_276 : decode cL_law 276 = .ok (.iload_n 3, 1) := by decide +kernel
theorem dL_law_277 : decode cL_law 277 = .ok (.iconst 1, 1) := by decide +kernel
theorem dL_law_278 : decode cL_law 278 = .ok (.iadd, 1) := by decide +kernel
theorem dL_law_279 : decode cL_law 279 = .ok (.iaload, 1) := by decide +kernel
theorem dL_law_280 : decode cL_law 280 = .ok (.invokevirtual 39, 3) := by decide +kernel
theorem dL_law_283 : decode cL_law 283 = .ok (.if_icmp .eq 572, 3) := by decide +kernel
theorem dL_law_286 : decode cL_law 286 = .ok (.iconst 0, 1) := by decide +kernel
theorem dL_law_287 : decode cL_law 287 = .ok (.ireturn, 1) := by decide +kernel
theorem dL_law_288 : decode cL_law 288 = .ok (.aload_n 1, 1) := by decide +kernel
theorem dL_law_289 : decode cL_law 289 = .ok (.aload_n 0, 1) := by decide +kernel
theorem dL_law_290 : decode cL_law 290 = .ok (.iload_n 3, 1) := by decide +kernel
theorem dL_law_291 : decode cL_law 291 = .ok (.iconst 1, 1) := by decide +kernel
theorem dL_law_292 : decode cL_law 292 = .ok (.iadd, 1) := by decide +kernel
theorem dL_law_293 : decode cL_law 293 = .ok (.iaload, 1) := by decide +kernel
theorem dL_law_294 : decode cL_law 294 = .ok (.invokevirtual 40, 3) := by decide +kernel
theorem dL_law_297 : decode cL_law 297 = .ok (.aload_n 2, 1) := by decide +kernel
theorem dL_law_298 : decode cL_law 298 = .ok (.aload_n 0, 1) := by decide +kernel
theorem dL_law_299 : decode cL_law 299 = .ok (.iload_n 3, 1) := by decide +kernel
theorem dL_law_300 : decode cL_law 300 = .ok (.iconst 1, 1) := by decide +kernel
theorem dL_law_301 : decode cL_law 301 = .ok (.iadd, 1) := by decide +kernel
theorem dL_law_302 : decode cL_law 302 = .ok (.iaload, 1) := by decide +kernel
theorem dL_law_303 : decode cL_law 303 = .ok (.invokevirtual 43, 3) := by decide +kernel
theorem dL_law_306 : decode cL_law 306 = .ok (.if_icmp .eq 549, 3) := by decide +kernel
theorem dL_law_309 : decode cL_law 309 = .ok (.iconst 0, 1) := by decide +kernel
theorem dL_law_310 : decode cL_law 310 = .ok (.ireturn, 1) := by decide +kernel
theorem dL_law_311 : decode cL_law 311 = .ok (.aload_n 1, 1) := by decide +kernel
theorem dL_law_312 : decode cL_law 312 = .ok (.invokevirtual 44, 3) := by decide +kernel
theorem dL_law_315 : decode cL_law 315 = .ok (.aload_n 2, 1) := by decide +kernel
theorem dL_law_316 : decode cL_law 316 = .ok (.invokevirtual 47, 3) := by decide +kernel
theorem dL_law_319 : decode cL_law 319 = .ok (.if_icmp .eq 536, 3) := by decide +kernel
theorem dL_law_322 : decode cL_law 322 = .ok (.iconst 0, 1) := by decide +kernel
theorem dL_law_323 : decode cL_law 323 = .ok (.ireturn, 1) := by decide +kernel
theorem dL_law_324 : decode cL_law 324 = .ok (.aload_n 1, 1) := by decide +kernel
theorem dL_law_325 : decode cL_law 325 = .ok (.aload_n 0, 1) := by decide +kernel
theorem dL_law_326 : decode cL_law 326 = .ok (.iload_n 3, 1) := by decide +kernel
theorem dL_law_327 : decode cL_law 327 = .ok (.iconst 1, 1) := by decide +kernel
theorem dL_law_328 : decode cL_law 328 = .ok (.iadd, 1) := by decide +kernel
theorem dL_law_329 : decode cL_law 329 = .ok (.iaload, 1) := by decide +kernel
theorem dL_law_330 : decode cL_law 330 = .ok (.invokevirtual 48, 3) := by decide +kernel
theorem dL_law_333 : decode cL_law 333 = .ok (.aload_n 2, 1) := by decide +kernel
theorem dL_law_334 : decode cL_law 334 = .ok (.aload_n 0, 1) := by decide +kernel
theorem dL_law_335 : decode cL_law 335 = .ok (.iload_n 3, 1) := by decide +kernel
theorem dL_law_336 : decode cL_law 336 = .ok (.iconst 1, 1) := by decide +kernel
theorem dL_law_337 : decode cL_law 337 = .ok (.iadd, 1) := by decide +kernel
theorem dL_law_338 : decode cL_law 338 = .ok (.iaload, 1) := by decide +kernel
theorem dL_law_339 : decode cL_law 339 = .ok (.invokevirtual 51, 3) := by decide +kernel
theorem dL_law_342 : decode cL_law 342 = .ok (.if_icmp .eq 513, 3) := by decide +kernel
theorem dL_law_345 : decode cL_law 345 = .ok (.iconst 0, 1) := by decide +kernel
theorem dL_law_346 : decode cL_law 346 = .ok (.ireturn, 1) := by decide +kernel
theorem dL_law_347 : decode cL_law 347 = .ok (.aload_n 1, 1) := by decide +kernel
theorem dL_law_348 : decode cL_law 348 = .ok (.aload_n 0, 1) := by decide +kernel
theorem dL_law_349 : decode cL_law 349 = .ok (.iload_n 3, 1) := by decide +kernel
theorem dL_law_350 : decode cL_law 350 = .ok (.iconst 1, 1) := by decide +kernel
theorem dL_law_351 : decode cL_law 351 = .ok (.iadd, 1) := by decide +kernel
theorem dL_law_352 : decode cL_law 352 = .ok (.iaload, 1) := by decide +kernel
theorem dL_law_353 : decode cL_law 353 = .ok (.invokevirtual 52, 3) := by decide +kernel
theorem dL_law_356 : decode cL_law 356 = .ok (.aload_n 2, 1) := by decide +kernel
theorem dL_law_357 : decode cL_law 357 = .ok (.aload_n 0, 1) := by decide +kernel
theorem dL_law_358 : decode cL_law 358 = .ok (.iload_n 3, 1) := by decide +kernel
theorem dL_law_359 : decode cL_law 359 = .ok (.iconst 1, 1) := by decide +kernel
theorem dL_law_360 : decode cL_law 360 = .ok (.iadd, 1) := by decide +kernel
theorem dL_law_361 : decode cL_law 361 = .ok (.iaload, 1) := by decide +kernel
theorem dL_law_362 : decode cL_law 362 = .ok (.invokevirtual 55, 3) := by decide +kernel
theorem dL_law_365 : decode cL_law 365 = .ok (.if_icmp .eq 490, 3) := by decide +kernel
theorem dL_law_368 : decode cL_law 368 = .ok (.iconst 0, 1) := by decide +kernel
theorem dL_law_369 : decode cL_law 369 = .ok (.ireturn, 1) := by decide +kernel
theorem dL_law_370 : decode cL_law 370 = .ok (.aload_n 1, 1) := by decide +kernel
theorem dL_law_371 : decode cL_law 371 = .ok (.aload_n 0, 1) := by decide +kernel
theorem dL_law_372 : decode cL_law 372 = .ok (.iload_n 3, 1) := by decide +kernel
theorem dL_law_373 : decode cL_law 373 = .ok (.iconst 1, 1) := by decide +kernel
theorem dL_law_374 : decode cL_law 374 = .ok (.iadd, 1) := by decide +kernel
theorem dL_law_375 : decode cL_law 375 = .ok (.iaload, 1) := by decide +kernel
theorem dL_law_376 : decode cL_law 376 = .ok (.invokevirtual 56, 3) := by decide +kernel
theorem dL_law_379 : decode cL_law 379 = .ok (.aload_n 2, 1) := by decide +kernel
theorem dL_law_380 : decode cL_law 380 = .ok (.aload_n 0, 1) := by decide +kernel
theorem dL_law_381 : decode cL_law 381 = .ok (.iload_n 3, 1) := by decide +kernel
theorem dL_law_382 : decode cL_law 382 = .ok (.iconst 1, 1) := by decide +kernel
theorem dL_law_383 : decode cL_law 383 = .ok (.iadd, 1) := by decide +kernel
theorem dL_law_384 : decode cL_law 384 = .ok (.iaload, 1) := by decide +kernel
theorem dL_law_385 : decode cL_law 385 = .ok (.invokevirtual 59, 3) := by decide +kernel
theorem dL_law_388 : decode cL_law 388 = .ok (.if_icmp .eq 467, 3) := by decide +kernel
theorem dL_law_391 : decode cL_law 391 = .ok (.iconst 0, 1) := by decide +kernel
theorem dL_law_392 : decode cL_law 392 = .ok (.ireturn, 1) := by decide +kernel
theorem dL_law_393 : decode cL_law 393 = .ok (.aload_n 1, 1) := by decide +kernel
theorem dL_law_394 : decode cL_law 394 = .ok (.invokevirtual 60, 3) := by decide +kernel
theorem dL_law_397 : decode cL_law 397 = .ok (.aload_n 2, 1) := by decide +kernel
theorem dL_law_398 : decode cL_law 398 = .ok (.invokevirtual 63, 3) := by decide +kernel
theorem dL_law_401 : decode cL_law 401 = .ok (.if_icmp .eq 454, 3) := by decide +kernel
theorem dL_law_404 : decode cL_law 404 = .ok (.iconst 0, 1) := by decide +kernel
theorem dL_law_405 : decode cL_law 405 = .ok (.ireturn, 1) := by decide +kernel
theorem dL_law_406 : decode cL_law 406 = .ok (.aload_n 1, 1) := by decide +kernel
theorem dL_law_407 : decode cL_law 407 = .ok (.aload_n 0, 1) := by decide +kernel
theorem dL_law_408 : decode cL_law 408 = .ok (.iload_n 3, 1) := by decide +kernel
theorem dL_law_409 : decode cL_law 409 = .ok (.iconst 1, 1) := by decide +kernel
theorem dL_law_410 : decode cL_law 410 = .ok (.iadd, 1) := by decide +kernel
theorem dL_law_411 : decode cL_law 411 = .ok (.iaload, 1) := by decide +kernel
theorem dL_law_412 : decode cL_law 412 = .ok (.aload_n 0, 1) := by decide +kernel
theorem dL_law_413 : decode cL_law 413 = .ok (.iload_n 3, 1) := by decide +kernel
theorem dL_law_414 : decode cL_law 414 = .ok (.iconst 2, 1) := by decide +kernel
theorem dL_law_415 : decode cL_law 415 = .ok (.iadd, 1) := by decide +kernel
theorem dL_law_416 : decode cL_law 416 = .ok (.iaload, 1) := by decide +kernel
theorem dL_law_417 : decode cL_law 417 = .ok (.invokevirtual 64, 3) := by decide +kernel
theorem dL_law_420 : decode cL_law 420 = .ok (.aload_n 2, 1) := by decide +kernel
theorem dL_law_421 : decode cL_law 421 = .ok (.aload_n 0, 1) := by decide +kernel
theorem dL_law_422 : decode cL_law 422 = .ok (.iload_n 3, 1) := by decide +kernel
theorem dL_law_423 : decode cL_law 423 = .ok (.iconst 1, 1) := by decide +kernel
theorem dL_law_424 : decode cL_law 424 = .ok (.iadd, 1) := by decide +kernel
theorem dL_law_425 : decode cL_law 425 = .ok (.iaload, 1) := by decide +kernel
theorem dL_law_426 : decode cL_law 426 = .ok (.aload_n 0, 1) := by decide +kernel
theorem dL_law_427 : decode cL_law 427 = .ok (.iload_n 3, 1) := by decide +kernel
theorem dL_law_428 : decode cL_law 428 = .ok (.iconst 2, 1) := by decide +kernel
theorem dL_law_429 : decode cL_law 429 = .ok (.iadd, 1) := by decide +kernel
theorem dL_law_430 : decode cL_law 430 = .ok (.iaload, 1) := by decide +kernel
theorem dL_law_431 : decode cL_law 431 = .ok (.invokevirtual 67, 3) := by decide +kernel
theorem dL_law_434 : decode cL_law 434 = .ok (.if_icmp .eq 421, 3) := by decide +kernel
theorem dL_law_437 : decode cL_law 437 = .ok (.iconst 0, 1) := by decide +kernel
theorem dL_law_438 : decode cL_law 438 = .ok (.ireturn, 1) := by decide +kernel
theorem dL_law_439 : decode cL_law 439 = .ok (.aload_n 1, 1) := by decide +kernel
theorem dL_law_440 : decode cL_law 440 = .ok (.aload_n 0, 1) := by decide +kernel
theorem dL_law_441 : decode cL_law 441 = .ok (.iload_n 3, 1) := by decide +kernel
theorem dL_law_442 : decode cL_law 442 = .ok (.iconst 1, 1) := by decide +kernel
theorem dL_law_443 : decode cL_law 443 = .ok (.iadd, 1) := by decide +kernel
theorem dL_law_444 : decode cL_law 444 = .ok (.iaload, 1) := by decide +kernel
theorem dL_law_445 : decode cL_law 445 = .ok (.invokevirtual 68, 3) := by decide +kernel
theorem dL_law_448 : decode cL_law 448 = .ok (.aload_n 2, 1) := by decide +kernel
theorem dL_law_449 : decode cL_law 449 = .ok (.aload_n 0, 1) := by decide +kernel
theorem dL_law_450 : decode cL_law 450 = .ok (.iload_n 3, 1) := by decide +kernel
theorem dL_law_451 : decode cL_law 451 = .ok (.iconst 1, 1) := by decide +kernel
theorem dL_law_452 : decode cL_law 452 = .ok (.iadd, 1) := by decide +kernel
theorem dL_law_453 : decode cL_law 453 = .ok (.iaload, 1) := by decide +kernel
theorem dL_law_454 : decode cL_law 454 = .ok (.invokevirtual 71, 3) := by decide +kernel
theorem dL_law_457 : decode cL_law 457 = .ok (.if_icmp .eq 398, 3) := by decide +kernel
theorem dL_law_460 : decode cL_law 460 = .ok (.iconst 0, 1) := by decide +kernel
theorem dL_law_461 : decode cL_law 461 = .ok (.ireturn, 1) := by decide +kernel
theorem dL_law_462 : decode cL_law 462 = .ok (.aload_n 1, 1) := by decide +kernel
theorem dL_law_463 : decode cL_law 463 = .ok (.aload_n 0, 1) := by decide +kernel
theorem dL_law_464 : decode cL_law 464 = .ok (.iload_n 3, 1) := by decide +kernel
theorem dL_law_465 : decode cL_law 465 = .ok (.iconst 1, 1) := by decide +kernel
theorem dL_law_466 : decode cL_law 466 = .ok (.iadd, 1) := by decide +kernel
theorem dL_law_467 : decode cL_law 467 = .ok (.iaload, 1) := by decide +kernel
theorem dL_law_468 : decode cL_law 468 = .ok (.aload_n 0, 1) := by decide +kernel
theorem dL_law_469 : decode cL_law 469 = .ok (.iload_n 3, 1) := by decide +kernel
theorem dL_law_470 : decode cL_law 470 = .ok (.iconst 2, 1) := by decide +kernel
theorem dL_law_471 : decode cL_law 471 = .ok (.iadd, 1) := by decide +kernel
theorem dL_law_472 : decode cL_law 472 = .ok (.iaload, 1) := by decide +kernel
theorem dL_law_473 : decode cL_law 473 = .ok (.invokevirtual 72, 3) := by decide +kernel
theorem dL_law_476 : decode cL_law 476 = .ok (.aload_n 2, 1) := by decide +kernel
theorem dL_law_477 : decode cL_law 477 = .ok (.aload_n 0, 1) := by decide +kernel
theorem dL_law_478 : decode cL_law 478 = .ok (.iload_n 3, 1) := by decide +kernel
theorem dL_law_479 : decode cL_law 479 = .ok (.iconst 1, 1) := by decide +kernel
theorem dL_law_480 : decode cL_law 480 = .ok (.iadd, 1) := by decide +kernel
theorem dL_law_481 : decode cL_law 481 = .ok (.iaload, 1) := by decide +kernel
theorem dL_law_482 : decode cL_law 482 = .ok (.aload_n 0, 1) := by decide +kernel
theorem dL_law_483 : decode cL_law 483 = .ok (.iload_n 3, 1) := by decide +kernel
theorem dL_law_484 : decode cL_law 484 = .ok (.iconst 2, 1) := by decide +kernel
theorem dL_law_485 : decode cL_law 485 = .ok (.iadd, 1) := by decide +kernel
theorem dL_law_486 : decode cL_law 486 = .ok (.iaload, 1) := by decide +kernel
theorem dL_law_487 : decode cL_law 487 = .ok (.invokevirtual 75, 3) := by decide +kernel
theorem dL_law_490 : decode cL_law 490 = .ok (.if_icmp .eq 365, 3) := by decide +kernel
theorem dL_law_493 : decode cL_law 493 = .ok (.iconst 0, 1) := by decide +kernel
theorem dL_law_494 : decode cL_law 494 = .ok (.ireturn, 1) := by decide +kernel
theorem dL_law_495 : decode cL_law 495 = .ok (.aload_n 1, 1) := by decide +kernel
theorem dL_law_496 : decode cL_law 496 = .ok (.aload_n 0, 1) := by decide +kernel
theorem dL_law_497 : decode cL_law 497 = .ok (.iload_n 3, 1) := by decide +kernel
theorem dL_law_498 : decode cL_law 498 = .ok (.iconst 1, 1) := by decide +kernel
theorem dL_law_499 : decode cL_law 499 = .ok (.iadd, 1) := by decide +kernel
theorem dL_law_500 : decode cL_law 500 = .ok (.iaload, 1) := by decide +kernel
theorem dL_law_501 : decode cL_law 501 = .ok (.aload_n 0, 1) := by decide +kernel
theorem dL_law_502 : decode cL_law 502 = .ok (.iload_n 3, 1) := by decide +kernel
theorem dL_law_503 : decode cL_law 503 = .ok (.iconst 2, 1) := by decide +kernel
theorem dL_law_504 : decode cL_law 504 = .ok (.iadd, 1) := by decide +kernel
theorem dL_law_505 : decode cL_law 505 = .ok (.iaload, 1) := by decide +kernel
theorem dL_law_506 : decode cL_law 506 = .ok (.invokevirtual 76, 3) := by decide +kernel
theorem dL_law_509 : decode cL_law 509 = .ok (.aload_n 2, 1) := by decide +kernel
theorem dL_law_510 : decode cL_law 510 = .ok (.aload_n 0, 1) := by decide +kernel
theorem dL_law_511 : decode cL_law 511 = .ok (.iload_n 3, 1) := by decide +kernel
theorem dL_law_512 : decode cL_law 512 = .ok (.iconst 1, 1) := by decide +kernel
theorem dL_law_513 : decode cL_law 513 = .ok (.iadd, 1) := by decide +kernel
theorem dL_law_514 : decode cL_law 514 = .ok (.iaload, 1) := by decide +kernel
theorem dL_law_515 : decode cL_law 515 = .ok (.aload_n 0, 1) := by decide +kernel
theorem dL_law_516 : decode cL_law 516 = .ok (.iload_n 3, 1) := by decide +kernel
theorem dL_law_517 : decode cL_law 517 = .ok (.iconst 2, 1) := by decide +kernel
theorem dL_law_518 : decode cL_law 518 = .ok (.iadd, 1) := by decide +kernel
theorem dL_law_519 : decode cL_law 519 = .ok (.iaload, 1) := by decide +kernel
theorem dL_law_520 : decode cL_law 520 = .ok (.invokevirtual 79, 3) := by decide +kernel
theorem dL_law_523 : decode cL_law 523 = .ok (.if_icmp .eq 332, 3) := by decide +kernel
theorem dL_law_526 : decode cL_law 526 = .ok (.iconst 0, 1) := by decide +kernel
theorem dL_law_527 : decode cL_law 527 = .ok (.ireturn, 1) := by decide +kernel
theorem dL_law_528 : decode cL_law 528 = .ok (.aload_n 1, 1) := by decide +kernel
theorem dL_law_529 : decode cL_law 529 = .ok (.aload_n 0, 1) := by decide +kernel
theorem dL_law_530 : decode cL_law 530 = .ok (.iload_n 3, 1) := by decide +kernel
theorem dL_law_531 : decode cL_law 531 = .ok (.iconst 1, 1) := by decide +kernel
theorem dL_law_532 : decode cL_law 532 = .ok (.iadd, 1) := by decide +kernel
theorem dL_law_533 : decode cL_law 533 = .ok (.iaload, 1) := by decide +kernel
theorem dL_law_534 : decode cL_law 534 = .ok (.invokevirtual 80, 3) := by decide +kernel
theorem dL_law_537 : decode cL_law 537 = .ok (.aload_n 2, 1) := by decide +kernel
theorem dL_law_538 : decode cL_law 538 = .ok (.aload_n 0, 1) := by decide +kernel
theorem dL_law_539 : decode cL_law 539 = .ok (.iload_n 3, 1) := by decide +kernel
theorem dL_law_540 : decode cL_law 540 = .ok (.iconst 1, 1) := by decide +kernel
theorem dL_law_541 : decode cL_law 541 = .ok (.iadd, 1) := by decide +kernel
theorem dL_law_542 : decode cL_law 542 = .ok (.iaload, 1) := by decide +kernel
theorem dL_law_543 : decode cL_law 543 = .ok (.invokevirtual 83, 3) := by decide +kernel
theorem dL_law_546 : decode cL_law 546 = .ok (.if_icmp .eq 309, 3) := by decide +kernel
theorem dL_law_549 : decode cL_law 549 = .ok (.iconst 0, 1) := by decide +kernel
theorem dL_law_550 : decode cL_law 550 = .ok (.ireturn, 1) := by decide +kernel
theorem dL_law_551 : decode cL_law 551 = .ok (.aload_n 1, 1) := by decide +kernel
theorem dL_law_552 : decode cL_law 552 = .ok (.aload_n 0, 1) := by decide +kernel
theorem dL_law_553 : decode cL_law 553 = .ok (.iload_n 3, 1) := by decide +kernel
theorem dL_law_554 : decode cL_law 554 = .ok (.iconst 1, 1) := by decide +kernel
theorem dL_law_555 : decode cL_law 555 = .ok (.iadd, 1) := by decide +kernel
theorem dL_law_556 : decode cL_law 556 = .ok (.iaload, 1) := by decide +kernel
theorem dL_law_557 : decode cL_law 557 = .ok (.aload_n 0, 1) := by decide +kernel
theorem dL_law_558 : decode cL_law 558 = .ok (.iload_n 3, 1) := by decide +kernel
theorem dL_law_559 : decode cL_law 559 = .ok (.iconst 2, 1) := by decide +kernel
theorem dL_law_560 : decode cL_law 560 = .ok (.iadd, 1) := by decide +kernel
theorem dL_law_561 : decode cL_law 561 = .ok (.iaload, 1) := by decide +kernel
theorem dL_law_562 : decode cL_law 562 = .ok (.invokevirtual 84, 3) := by decide +kernel
theorem dL_law_565 : decode cL_law 565 = .ok (.aload_n 2, 1) := by decide +kernel
theorem dL_law_566 : decode cL_law 566 = .ok (.aload_n 0, 1) := by decide +kernel
theorem dL_law_567 : decode cL_law 567 = .ok (.iload_n 3, 1) := by decide +kernel
theorem dL_law_568 : decode cL_law 568 = .ok (.iconst 1, 1) := by decide +kernel
theorem dL_law_569 : decode cL_law 569 = .ok (.iadd, 1) := by decide +kernel
theorem dL_law_570 : decode cL_law 570 = .ok (.iaload, 1) := by decide +kernel
theorem dL_law_571 : decode cL_law 571 = .ok (.aload_n 0, 1) := by decide +kernel
theorem dL_law_572 : decode cL_law 572 = .ok (.iload_n 3, 1) := by decide +kernel
theorem dL_law_573 : decode cL_law 573 = .ok (.iconst 2, 1) := by decide +kernel
theorem dL_law_574 : decode cL_law 574 = .ok (.iadd, 1) := by decide +kernel
theorem dL_law_575 : decode cL_law 575 = .ok (.iaload, 1) := by decide +kernel
theorem dL_law_576 : decode cL_law 576 = .ok (.invokevirtual 87, 3) := by decide +kernel
theorem dL_law_579 : decode cL_law 579 = .ok (.if_icmp .eq 276, 3) := by decide +kernel
theorem dL_law_582 : decode cL_law 582 = .ok (.iconst 0, 1) := by decide +kernel
theorem dL_law_583 : decode cL_law 583 = .ok (.ireturn, 1) := by decide +kernel
theorem dL_law_584 : decode cL_law 584 = .ok (.aload_n 1, 1) := by decide +kernel
theorem dL_law_585 : decode cL_law 585 = .ok (.aload_n 0, 1) := by decide +kernel
theorem dL_law_586 : decode cL_law 586 = .ok (.iload_n 3, 1) := by decide +kernel
theorem dL_law_587 : decode cL_law 587 = .ok (.iconst 1, 1) := by decide +kernel
theorem dL_law_588 : decode cL_law 588 = .ok (.iadd, 1) := by decide +kernel
theorem dL_law_589 : decode cL_law 589 = .ok (.iaload, 1) := by decide +kernel
theorem dL_law_590 : decode cL_law 590 = .ok (.aload_n 0, 1) := by decide +kernel
theorem dL_law_591 : decode cL_law 591 = .ok (.iload_n 3, 1) := by decide +kernel
theorem dL_law_592 : decode cL_law 592 = .ok (.iconst 2, 1) := by decide +kernel
theorem dL_law_593 : decode cL_law 593 = .ok (.iadd, 1) := by decide +kernel
theorem dL_law_594 : decode cL_law 594 = .ok (.iaload, 1) := by decide +kernel
theorem dL_law_595 : decode cL_law 595 = .ok (.aload_n 0, 1) := by decide +kernel
theorem dL_law_596 : decode cL_law 596 = .ok (.iload_n 3, 1) := by decide +kernel
theorem dL_law_597 : decode cL_law 597 = .ok (.iconst 3, 1) := by decide +kernel
theorem dL_law_598 : decode cL_law 598 = .ok (.iadd, 1) := by decide +kernel
theorem dL_law_599 : decode cL_law 599 = .ok (.iaload, 1) := by decide +kernel
theorem dL_law_600 : decode cL_law 600 = .ok (.invokevirtual 88, 3) := by decide +kernel
theorem dL_law_603 : decode cL_law 603 = .ok (.aload_n 2, 1) := by decide +kernel
theorem dL_law_604 : decode cL_law 604 = .ok (.aload_n 0, 1) := by decide +kernel
theorem dL_law_605 : decode cL_law 605 = .ok (.iload_n 3, 1) := by decide +kernel
theorem dL_law_606 : decode cL_law 606 = .ok (.iconst 1, 1) := by decide +kernel
theorem dL_law_607 : decode cL_law 607 = .ok (.iadd, 1) := by decide +kernel
theorem dL_law_608 : decode cL_law 608 = .ok (.iaload, 1) := by decide +kernel
theorem dL_law_609 : decode cL_law 609 = .ok (.aload_n 0, 1) := by decide +kernel
theorem dL_law_610 : decode cL_law 610 = .ok (.iload_n 3, 1) := by decide +kernel
theorem dL_law_611 : decode cL_law 611 = .ok (.iconst 2, 1) := by decide +kernel
theorem dL_law_612 : decode cL_law 612 = .ok (.iadd, 1) := by decide +kernel
theorem dL_law_613 : decode cL_law 613 = .ok (.iaload, 1) := by decide +kernel
theorem dL_law_614 : decode cL_law 614 = .ok (.aload_n 0, 1) := by decide +kernel
theorem dL_law_615 : decode cL_law 615 = .ok (.iload_n 3, 1) := by decide +kernel
theorem dL_law_616 : decode cL_law 616 = .ok (.iconst 3, 1) := by decide +kernel
theorem dL_law_617 : decode cL_law 617 = .ok (.iadd, 1) := by decide +kernel
theorem dL_law_618 : decode cL_law 618 = .ok (.iaload, 1) := by decide +kernel
theorem dL_law_619 : decode cL_law 619 = .ok (.invokevirtual 92, 3) := by decide +kernel
theorem dL_law_622 : decode cL_law 622 = .ok (.if_icmp .eq 233, 3) := by decide +kernel
theorem dL_law_625 : decode cL_law 625 = .ok (.iconst 0, 1) := by decide +kernel
theorem dL_law_626 : decode cL_law 626 = .ok (.ireturn, 1) := by decide +kernel
theorem dL_law_627 : decode cL_law 627 = .ok (.aload_n 1, 1) := by decide +kernel
theorem dL_law_628 : decode cL_law 628 = .ok (.aload_n 0, 1) := by decide +kernel
theorem dL_law_629 : decode cL_law 629 = .ok (.iload_n 3, 1) := by decide +kernel
theorem dL_law_630 : decode cL_law 630 = .ok (.iconst 1, 1) := by decide +kernel
theorem dL_law_631 : decode cL_law 631 = .ok (.iadd, 1) := by decide +kernel
theorem dL_law_632 : decode cL_law 632 = .ok (.iaload, 1) := by decide +kernel
theorem dL_law_633 : decode cL_law 633 = .ok (.aload_n 0, 1) := by decide +kernel
theorem dL_law_634 : decode cL_law 634 = .ok (.iload_n 3, 1) := by decide +kernel
theorem dL_law_635 : decode cL_law 635 = .ok (.iconst 2, 1) := by decide +kernel
theorem dL_law_636 : decode cL_law 636 = .ok (.iadd, 1) := by decide +kernel
theorem dL_law_637 : decode cL_law 637 = .ok (.iaload, 1) := by decide +kernel
theorem dL_law_638 : decode cL_law 638 = .ok (.aload_n 0, 1) := by decide +kernel
theorem dL_law_639 : decode cL_law 639 = .ok (.iload_n 3, 1) := by decide +kernel
theorem dL_law_640 : decode cL_law 640 = .ok (.iconst 3, 1) := by decide +kernel
theorem dL_law_641 : decode cL_law 641 = .ok (.iadd, 1) := by decide +kernel
theorem dL_law_642 : decode cL_law 642 = .ok (.iaload, 1) := by decide +kernel
theorem dL_law_643 : decode cL_law 643 = .ok (.invokevirtual 93, 3) := by decide +kernel
theorem dL_law_646 : decode cL_law 646 = .ok (.aload_n 2, 1) := by decide +kernel
theorem dL_law_647 : decode cL_law 647 = .ok (.aload_n 0, 1) := by decide +kernel
theorem dL_law_648 : decode cL_law 648 = .ok (.iload_n 3, 1) := by decide +kernel
theorem dL_law_649 : decode cL_law 649 = .ok (.iconst 1, 1) := by decide +kernel
theorem dL_law_650 : decode cL_law 650 = .ok (.iadd, 1) := by decide +kernel
theorem dL_law_651 : decode cL_law 651 = .ok (.iaload, 1) := by decide +kernel
theorem dL_law_652 : decode cL_law 652 = .ok (.aload_n 0, 1) := by decide +kernel
theorem dL_law_653 : decode cL_law 653 = .ok (.iload_n 3, 1) := by decide +kernel
theorem dL_law_654 : decode cL_law 654 = .ok (.iconst 2, 1) := by decide +kernel
theorem dL_law_655 : decode cL_law 655 = .ok (.iadd, 1) := by decide +kernel
theorem dL_law_656 : decode cL_law 656 = .ok (.iaload, 1) := by decide +kernel
theorem dL_law_657 : decode cL_law 657 = .ok (.aload_n 0, 1) := by decide +kernel
theorem dL_law_658 : decode cL_law 658 = .ok (.iload_n 3, 1) := by decide +kernel
theorem dL_law_659 : decode cL_law 659 = .ok (.iconst 3, 1) := by decide +kernel
theorem dL_law_660 : decode cL_law 660 = .ok (.iadd, 1) := by decide +kernel
theorem dL_law_661 : decode cL_law 661 = .ok (.iaload, 1) := by decide +kernel
theorem dL_law_662 : decode cL_law 662 = .ok (.invokevirtual 96, 3) := by decide +kernel
theorem dL_law_665 : decode cL_law 665 = .ok (.if_icmp .eq 190, 3) := by decide +kernel
theorem dL_law_668 : decode cL_law 668 = .ok (.iconst 0, 1) := by decide +kernel
theorem dL_law_669 : decode cL_law 669 = .ok (.ireturn, 1) := by decide +kernel
theorem dL_law_670 : decode cL_law 670 = .ok (.aload_n 1, 1) := by decide +kernel
theorem dL_law_671 : decode cL_law 671 = .ok (.invokevirtual 97, 3) := by decide +kernel
theorem dL_law_674 : decode cL_law 674 = .ok (.aload_n 2, 1) := by decide +kernel
theorem dL_law_675 : decode cL_law 675 = .ok (.invokevirtual 100, 3) := by decide +kernel
theorem dL_law_678 : decode cL_law 678 = .ok (.if_icmp .eq 177, 3) := by decide +kernel
theorem dL_law_681 : decode cL_law 681 = .ok (.iconst 0, 1) := by decide +kernel
theorem dL_law_682 : decode cL_law 682 = .ok (.ireturn, 1) := by decide +kernel
theorem dL_law_683 : decode cL_law 683 = .ok (.aload_n 1, 1) := by decide +kernel
theorem dL_law_684 : decode cL_law 684 = .ok (.aload_n 0, 1) := by decide +kernel
theorem dL_law_685 : decode cL_law 685 = .ok (.iload_n 3, 1) := by decide +kernel
theorem dL_law_686 : decode cL_law 686 = .ok (.iconst 1, 1) := by decide +kernel
theorem dL_law_687 : decode cL_law 687 = .ok (.iadd, 1) := by decide +kernel
theorem dL_law_688 : decode cL_law 688 = .ok (.iaload, 1) := by decide +kernel
theorem dL_law_689 : decode cL_law 689 = .ok (.aload_n 0, 1) := by decide +kernel
theorem dL_law_690 : decode cL_law 690 = .ok (.iload_n 3, 1) := by decide +kernel
theorem dL_law_691 : decode cL_law 691 = .ok (.iconst 2, 1) := by decide +kernel
theorem dL_law_692 : decode cL_law 692 = .ok (.iadd, 1) := by decide +kernel
theorem dL_law_693 : decode cL_law 693 = .ok (.iaload, 1) := by decide +kernel
theorem dL_law_694 : decode cL_law 694 = .ok (.invokevirtual 101, 3) := by decide +kernel
theorem dL_law_697 : decode cL_law 697 = .ok (.aload_n 2, 1) := by decide +kernel
theorem dL_law_698 : decode cL_law 698 = .ok (.aload_n 0, 1) := by decide +kernel
theorem dL_law_699 : decode cL_law 699 = .ok (.iload_n 3, 1) := by decide +kernel
theorem dL_law_700 : decode cL_law 700 = .ok (.iconst 1, 1) := by decide +kernel
theorem dL_law_701 : decode cL_law 701 = .ok (.iadd, 1) := by decide +kernel
theorem dL_law_702 : decode cL_law 702 = .ok (.iaload, 1) := by decide +kernel
theorem dL_law_703 : decode cL_law 703 = .ok (.aload_n 0, 1) := by decide +kernel
theorem dL_law_704 : decode cL_law 704 = .ok (.iload_n 3, 1) := by decide +kernel
theorem dL_law_705 : decode cL_law 705 = .ok (.iconst 2, 1) := by decide +kernel
theorem dL_law_706 : decode cL_law 706 = .ok (.iadd, 1) := by decide +kernel
theorem dL_law_707 : decode cL_law 707 = .ok (.iaload, 1) := by decide +kernel
theorem dL_law_708 : decode cL_law 708 = .ok (.invokevirtual 104, 3) := by decide +kernel
theorem dL_law_711 : decode cL_law 711 = .ok (.if_icmp .eq 144, 3) := by decide +kernel
theorem dL_law_714 : decode cL_law 714 = .ok (.iconst 0, 1) := by decide +kernel
theorem dL_law_715 : decode cL_law 715 = .ok (.ireturn, 1) := by decide +kernel
theorem dL_law_716 : decode cL_law 716 = .ok (.aload_n 1, 1) := by decide +kernel
theorem dL_law_717 : decode cL_law 717 = .ok (.aload_n 0, 1) := by decide +kernel
theorem dL_law_718 : decode cL_law 718 = .ok (.iload_n 3, 1) := by decide +kernel
theorem dL_law_719 : decode cL_law 719 = .ok (.iconst 1, 1) := by decide +kernel
theorem dL_law_720 : decode cL_law 720 = .ok (.iadd, 1) := by decide +kernel
theorem dL_law_721 : decode cL_law 721 = .ok (.iaload, 1) := by decide +kernel
theorem dL_law_722 : decode cL_law 722 = .ok (.invokevirtual 105, 3) := by decide +kernel
theorem dL_law_725 : decode cL_law 725 = .ok (.aload_n 2, 1) := by decide +kernel
theorem dL_law_726 : decode cL_law 726 = .ok (.aload_n 0, 1) := by decide +kernel
end
section
theorem dL_law_727 : decode cL_law 727 = .ok (.iload_n 3, 1) := by decide +kernel
theorem dL_law_728 : decode cL_law 728 = .ok (.iconst 1, 1) := by decide +kernel
theorem dL_law_729 : decode cL_law 729 = .ok (.iadd, 1) := by decide +kernel
theorem dL_law_730 : decode cL_law 730 = .ok (.iaload, 1) := by decide +kernel
theorem dL_law_731 : decode cL_law 731 = .ok (.invokevirtual 108, 3) := by decide +kernel
theorem dL_law_734 : decode cL_law 734 = .ok (.if_icmp .eq 121, 3) := by decide +kernel
theorem dL_law_737 : decode cL_law 737 = .ok (.iconst 0, 1) := by decide +kernel
theorem dL_law_738 : decode cL_law 738 = .ok (.ireturn, 1) := by decide +kernel
theorem dL_law_739 : decode cL_law 739 = .ok (.aload_n 1, 1) := by decide +kernel
theorem dL_law_740 : decode cL_law 740 = .ok (.aload_n 0, 1) := by decide +kernel
theorem dL_law_741 : decode cL_law 741 = .ok (.iload_n 3, 1) := by decide +kernel
theorem dL_law_742 : decode cL_law 742 = .ok (.iconst 1, 1) := by decide +kernel
theorem dL_law_743 : decode cL_law 743 = .ok (.iadd, 1) := by decide +kernel
theorem dL_law_744 : decode cL_law 744 = .ok (.iaload, 1) := by decide +kernel
theorem dL_law_745 : decode cL_law 745 = .ok (.aload_n 0, 1) := by decide +kernel
theorem dL_law_746 : decode cL_law 746 = .ok (.iload_n 3, 1) := by decide +kernel
theorem dL_law_747 : decode cL_law 747 = .ok (.iconst 2, 1) := by decide +kernel
theorem dL_law_748 : decode cL_law 748 = .ok (.iadd, 1) := by decide +kernel
theorem dL_law_749 : decode cL_law 749 = .ok (.iaload, 1) := by decide +kernel
theorem dL_law_750 : decode cL_law 750 = .ok (.invokevirtual 109, 3) := by decide +kernel
theorem dL_law_753 : decode cL_law 753 = .ok (.aload_n 2, 1) := by decide +kernel
theorem dL_law_754 : decode cL_law 754 = .ok (.aload_n 0, 1) := by decide +kernel
theorem dL_law_755 : decode cL_law 755 = .ok (.iload_n 3, 1) := by decide +kernel
theorem dL_law_756 : decode cL_law 756 = .ok (.iconst 1, 1) := by decide +kernel
theorem dL_law_757 : decode cL_law 757 = .ok (.iadd, 1) := by decide +kernel
theorem dL_law_758 : decode cL_law 758 = .ok (.iaload, 1) := by decide +kernel
theorem dL_law_759 : decode cL_law 759 = .ok (.aload_n 0, 1) := by decide +kernel
theorem dL_law_760 : decode cL_law 760 = .ok (.iload_n 3, 1) := by decide +kernel
theorem dL_law_761 : decode cL_law 761 = .ok (.iconst 2, 1) := by decide +kernel
theorem dL_law_762 : decode cL_law 762 = .ok (.iadd, 1) := by decide +kernel
theorem dL_law_763 : decode cL_law 763 = .ok (.iaload, 1) := by decide +kernel
theorem dL_law_764 : decode cL_law 764 = .ok (.invokevirtual 112, 3) := by decide +kernel
theorem dL_law_767 : decode cL_law 767 = .ok (.if_icmp .eq 88, 3) := by decide +kernel
theorem dL_law_770 : decode cL_law 770 = .ok (.iconst 0, 1) := by decide +kernel
theorem dL_law_771 : decode cL_law 771 = .ok (.ireturn, 1) := by decide +kernel
theorem dL_law_772 : decode cL_law 772 = .ok (.aload_n 1, 1) := by decide +kernel
theorem dL_law_773 : decode cL_law 773 = .ok (.aload_n 0, 1) := by decide +kernel
theorem dL_law_774 : decode cL_law 774 = .ok (.iload_n 3, 1) := by decide +kernel
theorem dL_law_775 : decode cL_law 775 = .ok (.iconst 1, 1) := by decide +kernel
theorem dL_law_776 : decode cL_law 776 = .ok (.iadd, 1) := by decide +kernel
theorem dL_law_777 : decode cL_law 777 = .ok (.iaload, 1) := by decide +kernel
theorem dL_law_778 : decode cL_law 778 = .ok (.invokevirtual 113, 3) := by decide +kernel
theorem dL_law_781 : decode cL_law 781 = .ok (.aload_n 2, 1) := by decide +kernel
theorem dL_law_782 : decode cL_law 782 = .ok (.aload_n 0, 1) := by decide +kernel
theorem dL_law_783 : decode cL_law 783 = .ok (.iload_n 3, 1) := by decide +kernel
theorem dL_law_784 : decode cL_law 784 = .ok (.iconst 1, 1) := by decide +kernel
theorem dL_law_785 : decode cL_law 785 = .ok (.iadd, 1) := by decide +kernel
theorem dL_law_786 : decode cL_law 786 = .ok (.iaload, 1) := by decide +kernel
theorem dL_law_787 : decode cL_law 787 = .ok (.invokevirtual 116, 3) := by decide +kernel
theorem dL_law_790 : decode cL_law 790 = .ok (.if_icmp .eq 65, 3) := by decide +kernel
theorem dL_law_793 : decode cL_law 793 = .ok (.iconst 0, 1) := by decide +kernel
theorem dL_law_794 : decode cL_law 794 = .ok (.ireturn, 1) := by decide +kernel
theorem dL_law_795 : decode cL_law 795 = .ok (.aload_n 1, 1) := by decide +kernel
theorem dL_law_796 : decode cL_law 796 = .ok (.aload_n 0, 1) := by decide +kernel
theorem dL_law_797 : decode cL_law 797 = .ok (.iload_n 3, 1) := by decide +kernel
theorem dL_law_798 : decode cL_law 798 = .ok (.iconst 1, 1) := by decide +kernel
theorem dL_law_799 : decode cL_law 799 = .ok (.iadd, 1) := by decide +kernel
theorem dL_law_800 : decode cL_law 800 = .ok (.iaload, 1) := by decide +kernel
theorem dL_law_801 : decode cL_law 801 = .ok (.invokevirtual 117, 3) := by decide +kernel
theorem dL_law_804 : decode cL_law 804 = .ok (.aload_n 2, 1) := by decide +kernel
theorem dL_law_805 : decode cL_law 805 = .ok (.aload_n 0, 1) := by decide +kernel
theorem dL_law_806 : decode cL_law 806 = .ok (.iload_n 3, 1) := by decide +kernel
theorem dL_law_807 : decode cL_law 807 = .ok (.iconst 1, 1) := by decide +kernel
theorem dL_law_808 : decode cL_law 808 = .ok (.iadd, 1) := by decide +kernel
theorem dL_law_809 : decode cL_law 809 = .ok (.iaload, 1) := by decide +kernel
theorem dL_law_810 : decode cL_law 810 = .ok (.invokevirtual 120, 3) := by decide +kernel
theorem dL_law_813 : decode cL_law 813 = .ok (.if_icmp .eq 42, 3) := by decide +kernel
theorem dL_law_816 : decode cL_law 816 = .ok (.iconst 0, 1) := by decide +kernel
theorem dL_law_817 : decode cL_law 817 = .ok (.ireturn, 1) := by decide +kernel
theorem dL_law_818 : decode cL_law 818 = .ok (.aload_n 1, 1) := by decide +kernel
theorem dL_law_819 : decode cL_law 819 = .ok (.aload_n 0, 1) := by decide +kernel
theorem dL_law_820 : decode cL_law 820 = .ok (.iload_n 3, 1) := by decide +kernel
theorem dL_law_821 : decode cL_law 821 = .ok (.iconst 1, 1) := by decide +kernel
theorem dL_law_822 : decode cL_law 822 = .ok (.iadd, 1) := by decide +kernel
theorem dL_law_823 : decode cL_law 823 = .ok (.iaload, 1) := by decide +kernel
theorem dL_law_824 : decode cL_law 824 = .ok (.invokevirtual 121, 3) := by decide +kernel
theorem dL_law_827 : decode cL_law 827 = .ok (.aload_n 2, 1) := by decide +kernel
theorem dL_law_828 : decode cL_law 828 = .ok (.aload_n 0, 1) := by decide +kernel
theorem dL_law_829 : decode cL_law 829 = .ok (.iload_n 3, 1) := by decide +kernel
theorem dL_law_830 : decode cL_law 830 = .ok (.iconst 1, 1) := by decide +kernel
theorem dL_law_831 : decode cL_law 831 = .ok (.iadd, 1) := by decide +kernel
theorem dL_law_832 : decode cL_law 832 = .ok (.iaload, 1) := by decide +kernel
theorem dL_law_833 : decode cL_law 833 = .ok (.invokevirtual 124, 3) := by decide +kernel
theorem dL_law_836 : decode cL_law 836 = .ok (.if_icmp .eq 19, 3) := by decide +kernel
theorem dL_law_839 : decode cL_law 839 = .ok (.iconst 0, 1) := by decide +kernel
theorem dL_law_840 : decode cL_law 840 = .ok (.ireturn, 1) := by decide +kernel
theorem dL_law_841 : decode cL_law 841 = .ok (.aload_n 1, 1) := by decide +kernel
theorem dL_law_842 : decode cL_law 842 = .ok (.invokevirtual 125, 3) := by decide +kernel
theorem dL_law_845 : decode cL_law 845 = .ok (.aload_n 2, 1) := by decide +kernel
theorem dL_law_846 : decode cL_law 846 = .ok (.invokevirtual 129, 3) := by decide +kernel
theorem dL_law_849 : decode cL_law 849 = .ok (.lcmp, 1) := by decide +kernel
theorem dL_law_850 : decode cL_law 850 = .ok (.ifCond .eq 5, 3) := by decide +kernel
theorem dL_law_853 : decode cL_law 853 = .ok (.iconst 0, 1) := by decide +kernel
theorem dL_law_854 : decode cL_law 854 = .ok (.ireturn, 1) := by decide +kernel
theorem dL_law_855 : decode cL_law 855 = .ok (.iinc 3 4, 3) := by decide +kernel
theorem dL_law_858 : decode cL_law 858 = .ok (.goto (-840), 3) := by decide +kernel
theorem dL_law_861 : decode cL_law 861 = .ok (.iconst 1, 1) := by decide +kernel
theorem dL_law_862 : decode cL_law 862 = .ok (.ireturn, 1) := by decide +kernel
end
section
/-! THE WORLD: 106 cells at ad g 0 .. ad g 105 (the class's system 0 .. 91, the reference 92 .. 105); what changes are ints (a cell, a place) and a long a cell -/
abbrev Wd : Type := (Nat → Nat → Int32) × (Nat → Int64)
def wget (w : Wd) (k j : Nat) : Int32 := w.1 k j
def wset (w : Wd) (k j : Nat) (v : Int32) : Wd := (fun a b => if a = k ∧ b = j then v else w.1 a b, w.2)
def lget (w : Wd) (k : Nat) : Int64 := w.2 k
def lset (w : Wd) (k : Nat) (v : Int64) : Wd := (w.1, fun a => if a = k then v else w.2 a)
def wcpy (w : Wd) (ks kd n : Nat) : Wd := (fun a b => if a = kd ∧ b < n then w.1 ks b else w.1 a b, w.2)
abbrev Gx : Type := va_G × Nat × ClassId × ClassId × ClassId
def ad (g : Gx) (k : Nat) : Nat := g.2.1 + k
def kinds : List Nat := [5, 1,7,7, 2,7,7,7,7, 2,7,7,7,7, 4,7,7,7,7, 4,7,7,7,7, 0,9, 4,7,7,7,7, 4,7,7,7,7, 4,7,7,7,7, 4,7,7,7,7, 4,7,7,7,7, 4,7,7,7,7, 4,7,7,7,7, 4,7,7,7,7, 4,7,7,7,7, 4,7,7,7,7, 4,7,7,7,7, 4,7,7,7,7, 3,7,7,7, 7,7, 6,7,7,7,7,7,7,8,7,7,7,7,7,7]
def lens : List Nat := [0, 0,120,4, 0,6,6,6,6, 0,6,6,6,6, 0,6,6,6,6, 0,6,6,6,6, 0,10, 0,6,6,6,6, 0,6,6,6,6, 0,6,6,6,6, 0,6,6,6,6, 0,6,6,6,6, 0,6,6,6,6, 0,6,6,6,6, 0,6,6,6,6, 0,6,6,6,6, 0,6,6,6,6, 0,6,6,6,6, 0,6,6,6,6, 0,6,6,6, 64,11, 0,6,6,6,26,260,52,2,18,120,24,26,64,11]
def kindOf (k : Nat) : Nat := kinds.getD k 99
def lenOf (k : Nat) : Nat := lens.getD k 0
def enc (g : Gx) (k : Nat) (r : Nat → Int32) (t : Int64) : va_E := match kindOf k with
  | 0 => .inr (0, [.ref (ad g 25), .int (r 1), .int (r 2)])
  | 1 => .inr (1, [.ref (ad g 2), .ref (ad g 3), .int (r 2), .int (r 3), .int (r 4), .int (r 5), .int (r 6), .int (r 7), .int (r 8), .int (r 9)])
  | 2 => .inr (2, [.int (r 0), .int (r 1), .int (r 2), .int (r 3), .ref (ad g (k + 1)), .ref (ad g (k + 2)), .ref (ad g (k + 3)), .ref (ad g (k + 4))])
  | 3 => .inr (3, [.ref (ad g 87), .ref (ad g 88), .ref (ad g 89), .int (r 3)])
  | 4 => .inr (4, [.int (r 0), .int (r 1), .ref (ad g (k + 1)), .ref (ad g (k + 2)), .ref (ad g (k + 3)), .ref (ad g (k + 4))])
  | 5 => .inr (5, [.ref (ad g 1), .ref (ad g 4), .ref (ad g 9), .ref (ad g 14), .ref (ad g 19), .ref (ad g 24), .ref (ad g 76), .ref (ad g 81), .int (r 8), .ref (ad g 86), .ref (ad g 90), .ref (ad g 91), .long t])
  | 6 => .inr (6, [.int (r 0), .ref (ad g 93), .ref (ad g 94), .ref (ad g 95), .int (r 4), .int (r 5), .int (r 6), .ref (ad g 96), .ref (ad g 97), .int (r 9), .ref (ad g 98), .ref (ad g 99), .int (r 12), .ref (ad g 100), .long t, .ref (ad g 101), .int (r 16), .int (r 17), .int (r 18), .int (r 19), .int (r 20), .int (r 21), .int (r 22), .int (r 23), .ref (ad g 102), .int (r 25), .int (r 26), .int (r 27), .ref (ad g 103), .ref (ad g 104), .ref (ad g 105)])
  | 7 => .inl (g.2.2.1, lenOf k, .inl r)
  | 8 => .inl (g.2.2.2.1, lenOf k, .inl r)
  | _ => .inl (g.2.2.2.2, 10, .inr (.inr (.inr (.inr (fun j => some (ad g (26 + 5 * j)))))))
def wl (g : Gx) (w : Wd) : va_W := (List.range 106).map (fun k => (ad g k, enc g k (w.1 k) (w.2 k)))
theorem kind_lt {k n : Nat} (h : kindOf k = n) (hn : n ≠ 99) : k < 106 := by
  rcases Nat.lt_or_ge k 106 with q | q
  · exact q
  · exfalso
    have e : kindOf k = 99 := by
      unfold kindOf
      rw [List.getD_eq_getElem?_getD, List.getElem?_eq_none (show kinds.length ≤ k from q)]
      rfl
    exact hn (h.symm.trans e)
theorem wl_at {g : Gx} {w : Wd} {k : Nat} (hk : k < 106) : (wl g w)[k]? = some (ad g k, enc g k (w.1 k) (w.2 k)) := by
  simp [wl, hk]
theorem wl_len (g : Gx) (w : Wd) : (wl g w).length = 106 := by simp [wl]
theorem wl_inv {g : Gx} {w : Wd} {k : Nat} {q : Nat × va_E} (h : (wl g w)[k]? = some q) : k < 106 ∧ q = (ad g k, enc g k (w.1 k) (w.2 k)) := by
  have hk : k < 106 := by
    have := (List.getElem?_eq_some_iff.mp h).1
    rwa [wl_len] at this
  exact ⟨hk, (Option.some.inj ((wl_at hk).symm.trans h)).symm⟩
theorem wl_D (g : Gx) (w : Wd) : va_D (fun q => g.2.1 ≤ q) (wl g w) := by
  refine ⟨fun i j p q hp hq e => ?_, fun k q hq => ?_⟩
  · obtain ⟨-, rfl⟩ := wl_inv hp
    obtain ⟨-, rfl⟩ := wl_inv hq
    exact Nat.add_left_cancel e
  · obtain ⟨-, rfl⟩ := wl_inv hq
    exact Nat.le_add_right _ _
theorem wl_set {g : Gx} {w w' : Wd} {k : Nat} {e : va_E} (hk : k < 106) (he : enc g k (w'.1 k) (w'.2 k) = e) (ho : ∀ j, j ≠ k → w'.1 j = w.1 j ∧ w'.2 j = w.2 j) : (wl g w).set k (ad g k, e) = wl g w' := by
  subst he
  apply List.ext_getElem?
  intro i
  rcases Nat.lt_or_ge i 106 with hi | hi
  · rw [wl_at hi, List.getElem?_set]
    by_cases hik : k = i
    · subst hik
      simp [wl_len, hk]
    · rw [if_neg hik, wl_at hi]
      obtain ⟨h1, h2⟩ := ho i (fun q => hik q.symm)
      rw [h1, h2]
  · rw [List.getElem?_eq_none (by rw [List.length_set, wl_len]; exact hi), List.getElem?_eq_none (by rw [wl_len]; exact hi)]
theorem wset_off (w : Wd) (k j : Nat) (v : Int32) : ∀ i, i ≠ k → (wset w k j v).1 i = w.1 i ∧ (wset w k j v).2 i = w.2 i := fun i hi => ⟨funext fun b => if_neg (fun q => hi q.1), rfl⟩
theorem lset_off (w : Wd) (k : Nat) (v : Int64) : ∀ i, i ≠ k → (lset w k v).1 i = w.1 i ∧ (lset w k v).2 i = w.2 i := fun i hi => ⟨rfl, if_neg hi⟩
theorem wcpy_off (w : Wd) (ks kd n : Nat) : ∀ i, i ≠ kd → (wcpy w ks kd n).1 i = w.1 i ∧ (wcpy w ks kd n).2 i = w.2 i := fun i hi => ⟨funext fun b => if_neg (fun q => hi q.1), rfl⟩
/-! the words that a callee may be handed, and the nest's -/
def isNst : Cond → Bool
  | .fieldLinkNest .. => true
  | .methodLinkNest .. => true
  | _ => false
def gd_tbl : List Cond := lw_tbl.filter goodWord
def ns_tbl : List Cond := lw_tbl.filter isNst
theorem gd_in {w : Cond} (i : Nat) (h : lw_tbl[i]? = some w) (hg : goodWord w = true) : w ∈ gd_tbl := List.mem_filter.mpr ⟨List.mem_of_getElem? h, hg⟩
theorem ns_in {w : Cond} (i : Nat) (h : lw_tbl[i]? = some w) (hg : isNst w = true) : w ∈ ns_tbl := List.mem_filter.mpr ⟨List.mem_of_getElem? h, hg⟩
theorem gd_good {w : Cond} (h : w ∈ gd_tbl) : (w.onTables && w.keeps) = true ∨ ∃ ty, w = .arrayClass ty := good_of_word (List.mem_filter.mp h).2
theorem ns_warm {w : Cond} (h : w ∈ ns_tbl) {s U : State} (hW : s.WarmedH U.vm) (hZ : va_Nw w s) : va_Nw w U := by
  have hn := (List.mem_filter.mp h).2
  cases w <;> first | exact va_Nw.warmF hW hZ | exact va_Nw.warmM hW hZ | cases hn
theorem ns_on {w : Cond} (h : w ∈ ns_tbl) : w.onTables = true := by
  have hn := (List.mem_filter.mp h).2
  cases w <;> first | rfl | cases hn
/-! what every method is told of the tables -/
def Kk (g : Gx) (U : State) : Prop := va_K g.1 vwCl [(g.2.2.1, .int), (g.2.2.2.1, .boolean), (g.2.2.2.2, .object "DumplingPolls$Stew")] U ∧ ∀ w ∈ ns_tbl, va_Nw w U
theorem Kk.warm {g : Gx} {s U : State} (h : Kk g s) (hW : s.WarmedH U.vm) : Kk g U := ⟨va_K.moved hW.alike h.1, fun w hw => ns_warm hw hW (h.2 w hw)⟩
theorem Kk.same {g : Gx} {s U : State} (h : Kk g s) (hv : s.vm = U.vm) : Kk g U := ⟨va_K.moved (hv ▸ Vm.Alike.refl s.vm) h.1, fun w hw => va_Nw.same (ns_on hw) hv (h.2 w hw)⟩
abbrev Ex : Type := Program × Launch × Env × Room × State × MethodId × Array Value × List Frame × Method × Code × Nat × Nat × (State → Prop) × Unit
abbrev Ex.p (E : Ex) : Program := E.1
abbrev Ex.l (E : Ex) : Launch := E.2.1
abbrev Ex.e (E : Ex) : Env := E.2.2.1
abbrev Ex.R (E : Ex) : Room := E.2.2.2.1
abbrev Ex.s (E : Ex) : State := E.2.2.2.2.1
abbrev Ex.m (E : Ex) : MethodId := E.2.2.2.2.2.1
abbrev Ex.args (E : Ex) : Array Value := E.2.2.2.2.2.2.1
abbrev Ex.below (E : Ex) : List Frame := E.2.2.2.2.2.2.2.1
abbrev Ex.meth (E : Ex) : Method := E.2.2.2.2.2.2.2.2.1
abbrev Ex.c (E : Ex) : Code := E.2.2.2.2.2.2.2.2.2.1
abbrev Ex.cells (E : Ex) : Nat := E.2.2.2.2.2.2.2.2.2.2.1
abbrev Ex.slots (E : Ex) : Nat := E.2.2.2.2.2.2.2.2.2.2.2.1
abbrev Ex.Q (E : Ex) : State → Prop := E.2.2.2.2.2.2.2.2.2.2.2.2.1
/-- where a method stands: its class, its bytes, its room, its locals' number -/
def Ctx (E : Ex) (own : String) (cc : ByteArray) (rm : Room) (nL : Nat) (g : Gx) : Prop :=
  E.p.tables.exec = Jvm.exec ∧ E.c.code = cc ∧ E.c.maxLocals = nL ∧ E.s.vm.findClass own = some E.m.cls ∧ (∀ w ∈ gd_tbl, w.before E.args E.s = true) ∧ Kk g E.s ∧ E.R = rm ∧ E.cells ≤ rm.cells ∧ E.slots ≤ rm.slots
def Xx (E : Ex) (nL : Nat) (g : Gx) (pc : Nat) (L : List (Nat × Value)) (st : List Value) (w : Wd) : Prop :=
  ∀ (H : Heap) (locs : List Loc) (ls : Array Slot), va_P g.1 vwCl (wl g w) H → va_S (fun q => g.2.1 ≤ q) E.s.heap H locs → lv_has ls nL L → W E.p E.l E.e E.R E.s E.m E.args E.below E.meth E.c H locs E.cells E.slots E.Q (F0 E.m pc ls st)
/-! a method's contract: the whole world, before and behind -/
def Pm (g : Gx) (av : List Value) (w : Wd) : Array Value → State → Prop := va_Pc av (fun U => va_P g.1 vwCl (wl g w) U.heap ∧ Kk g U)
def Qm (g : Gx) (o : Option Value) (w' : Wd) : Array Value → State → Outcome → State → Prop := fun _ st oc t => oc = .returned o ∧ va_P g.1 vwCl (wl g w') t.heap ∧ va_F (fun q => g.2.1 ≤ q) st t
def MetM (l : Launch) (y : MethodName) (cc : ByteArray) (maxL : Nat) (ret : Option FieldType) (rm : Room) (g : Gx) (av : List Value) (w : Wd) (o : Option Value) (w' : Wd) : Prop :=
  Met l y (.code y cc maxL ret :: gd_tbl) rm (Pm g av w) (Qm g o w') 0 0 (fun q => g.2.1 ≤ q)
def Rets (E : Ex) (g : Gx) (ret : Option FieldType) (o : Option Value) (w' : Wd) : Prop :=
  E.Q = MQ E.below (Qm g o w') E.args E.s E.cells E.slots (fun q => g.2.1 ≤ q) ∧ E.meth.sig.returnType = ret ∧ E.meth.locks = false
theorem Pm_blind (g : Gx) (av : List Value) (w : Wd) : FrameBlind (Pm g av w) := fun a U f mk h => ⟨h.1, h.2.1, h.2.2.same (U := U.calling f mk a) rfl⟩
theorem met_of {l : Launch} {y : MethodName} {cc : ByteArray} {maxL : Nat} {ret : Option FieldType} {rm : Room} {g : Gx} {av : List Value} {w w' : Wd} {o : Option Value} (hy : plainName y.cls = true) (hn : (lg_sl av).length ≤ maxL)
    (body : ∀ E : Ex, E.l = l → Ctx E y.cls cc rm maxL g → Rets E g ret o w' → Xx E maxL g 0 (lv_args 0 av) [] w) : MetM l y cc maxL ret rm g av w o w' := by
  refine Met.ofW (cc := cc) (maxL := maxL) (ret := ret) hy rfl ?_
  intro p e s m args below meth c s₁ B hml hv
  obtain ⟨rfl, hP, hK⟩ := hv
  have hts := atoms_spec (ws := .code y cc maxL ret :: gd_tbl) B.pre
  have hown : s.vm.findClass y.cls = some m.cls := findClass_of_methodNamed B.named
  have hb := body (p, l, e, rm, s, m, av.toArray, below, meth, c, 0, 0, MQ below (Qm g o w') av.toArray s 0 0 (fun q => g.2.1 ≤ q), ()) rfl
    ⟨B.exec, B.bytes, hml, hown, fun x hx => hts x (List.mem_cons_of_mem _ hx), hK, rfl, Nat.zero_le _, Nat.zero_le _⟩ ⟨rfl, B.returns, B.notSynchronized⟩
  rw [lg_entry_eq]
  exact hb s.heap [] _ hP va_S.rf (lv_entry av hn)
/-! the pieces of the functions -/
def bnd {α β : Type} (a : α) (f : α → Option β) : Option β := f a
def grd {β : Type} (b : Bool) (x : Option β) : Option β := match b with
  | true => x
  | false => none
def cal {α β : Type} (o : Option (α × Wd)) (f : α → Wd → Option β) : Option β := match o with
  | none => none
  | some q => f q.1 q.2
def inb (i : Int32) (n : Nat) : Bool := !(decide (i < 0) || decide (n ≤ i.toNatClampNeg))
theorem bd {α β : Type} {a : α} {f : α → Option β} {r : β} (h : bnd a f = some r) : ∃ x, x = a ∧ f x = some r := ⟨a, rfl, h⟩
theorem gd {β : Type} {b : Bool} {x : Option β} {r : β} (h : grd b x = some r) : b = true ∧ x = some r := by
  cases b with
  | true => exact ⟨rfl, h⟩
  | false => cases h
theorem cl {α β : Type} {o : Option (α × Wd)} {f : α → Wd → Option β} {r : β} (h : cal o f = some r) : ∃ a w, o = some (a, w) ∧ f a w = some r := by
  cases o with
  | none => cases h
  | some q => exact ⟨q.1, q.2, rfl, h⟩
theorem ip {β : Type} {c : Prop} {dc : Decidable c} {A B : Option β} {r : β} (hc : c) (h : @ite _ c dc A B = some r) : A = some r := by rwa [if_pos hc] at h
theorem iq {β : Type} {c : Prop} {dc : Decidable c} {A B : Option β} {r : β} (hc : ¬ c) (h : @ite _ c dc A B = some r) : B = some r := by rwa [if_neg hc] at h
theorem inb_in {i : Int32} {n : Nat} (h : inb i n = true) : vp_in i n := by
  unfold inb at h
  intro q
  rcases q with q | q
  · simp [q] at h
  · simp [q] at h
end
section
section XR
variable {E : Ex} {own : String} {cc : ByteArray} {rm : Room} {nL : Nat} {g : Gx} {pc : Nat} {L : List (Nat × Value)} {st : List Value} {w : Wd}
theorem x_iconst (C : Ctx E own cc rm nL g) {n : Int} {v : Int32} (hdg : decode cc pc = .ok (.iconst n, 1)) (hv : Int32.ofInt n = v) (kk : Xx E nL g (pc + 1) (L) (.int v :: st) w) : Xx E nL g (pc) (L) (st) w := fun H locs ls hP hS hl => lv_iconst C.1 C.2.1 hdg hv (kk H locs ls hP hS hl)
theorem x_bipush (C : Ctx E own cc rm nL g) {n : Int} {v : Int32} (hdg : decode cc pc = .ok (.bipush n, 2)) (hv : (Int8.ofInt n).toInt32 = v) (kk : Xx E nL g (pc + 2) (L) (.int v :: st) w) : Xx E nL g (pc) (L) (st) w := fun H locs ls hP hS hl => lv_bipush C.1 C.2.1 hdg hv (kk H locs ls hP hS hl)
theorem x_sipush (C : Ctx E own cc rm nL g) {n : Int} {v : Int32} (hdg : decode cc pc = .ok (.sipush n, 3)) (hv : (Int16.ofInt n).toInt32 = v) (kk : Xx E nL g (pc + 3) (L) (.int v :: st) w) : Xx E nL g (pc) (L) (st) w := fun H locs ls hP hS hl => lv_sipush C.1 C.2.1 hdg hv (kk H locs ls hP hS hl)
theorem x_lconst (C : Ctx E own cc rm nL g) {n : Fin 2} {v : Int64} (hdg : decode cc pc = .ok (.lconst n, 1)) (hv : Int64.ofNat (n : Nat) = v) (kk : Xx E nL g (pc + 1) (L) (.long v :: st) w) : Xx E nL g (pc) (L) (st) w := fun H locs ls hP hS hl => lv_lconst C.1 C.2.1 hdg hv (kk H locs ls hP hS hl)
theorem x_iadd (C : Ctx E own cc rm nL g) {x y : Int32} (hdg : decode cc pc = .ok (.iadd, 1))  (kk : Xx E nL g (pc + 1) (L) (.int (x + y) :: st) w) : Xx E nL g (pc) (L) (.int y :: .int x :: st) w := fun H locs ls hP hS hl => lv_iadd C.1 C.2.1 hdg  (kk H locs ls hP hS hl)
theorem x_isub (C : Ctx E own cc rm nL g) {x y : Int32} (hdg : decode cc pc = .ok (.isub, 1))  (kk : Xx E nL g (pc + 1) (L) (.int (x - y) :: st) w) : Xx E nL g (pc) (L) (.int y :: .int x :: st) w := fun H locs ls hP hS hl => lv_isub C.1 C.2.1 hdg  (kk H locs ls hP hS hl)
theorem x_imul (C : Ctx E own cc rm nL g) {x y : Int32} (hdg : decode cc pc = .ok (.imul, 1))  (kk : Xx E nL g (pc + 1) (L) (.int (x * y) :: st) w) : Xx E nL g (pc) (L) (.int y :: .int x :: st) w := fun H locs ls hP hS hl => lv_imul C.1 C.2.1 hdg  (kk H locs ls hP hS hl)
theorem x_iand (C : Ctx E own cc rm nL g) {x y : Int32} (hdg : decode cc pc = .ok (.iand, 1))  (kk : Xx E nL g (pc + 1) (L) (.int (x &&& y) :: st) w) : Xx E nL g (pc) (L) (.int y :: .int x :: st) w := fun H locs ls hP hS hl => lv_iand C.1 C.2.1 hdg  (kk H locs ls hP hS hl)
theorem x_ior (C : Ctx E own cc rm nL g) {x y : Int32} (hdg : decode cc pc = .ok (.ior, 1))  (kk : Xx E nL g (pc + 1) (L) (.int (x ||| y) :: st) w) : Xx E nL g (pc) (L) (.int y :: .int x :: st) w := fun H locs ls hP hS hl => lv_ior C.1 C.2.1 hdg  (kk H locs ls hP hS hl)
theorem x_ixor (C : Ctx E own cc rm nL g) {x y : Int32} (hdg : decode cc pc = .ok (.ixor, 1))  (kk : Xx E nL g (pc + 1) (L) (.int (x ^^^ y) :: st) w) : Xx E nL g (pc) (L) (.int y :: .int x :: st) w := fun H locs ls hP hS hl => lv_ixor C.1 C.2.1 hdg  (kk H locs ls hP hS hl)
theorem x_ishl (C : Ctx E own cc rm nL g) {x y : Int32} (hdg : decode cc pc = .ok (.ishl, 1))  (kk : Xx E nL g (pc + 1) (L) (.int (x <<< (y &&& 31)) :: st) w) : Xx E nL g (pc) (L) (.int y :: .int x :: st) w := fun H locs ls hP hS hl => lv_ishl C.1 C.2.1 hdg  (kk H locs ls hP hS hl)
theorem x_ishr (C : Ctx E own cc rm nL g) {x y : Int32} (hdg : decode cc pc = .ok (.ishr, 1))  (kk : Xx E nL g (pc + 1) (L) (.int (x >>> (y &&& 31)) :: st) w) : Xx E nL g (pc) (L) (.int y :: .int x :: st) w := fun H locs ls hP hS hl => lv_ishr C.1 C.2.1 hdg  (kk H locs ls hP hS hl)
theorem x_ladd (C : Ctx E own cc rm nL g) {x y : Int64} (hdg : decode cc pc = .ok (.ladd, 1))  (kk : Xx E nL g (pc + 1) (L) (.long (x + y) :: st) w) : Xx E nL g (pc) (L) (.long y :: .long x :: st) w := fun H locs ls hP hS hl => lv_ladd C.1 C.2.1 hdg  (kk H locs ls hP hS hl)
theorem x_land (C : Ctx E own cc rm nL g) {x y : Int64} (hdg : decode cc pc = .ok (.land, 1))  (kk : Xx E nL g (pc + 1) (L) (.long (x &&& y) :: st) w) : Xx E nL g (pc) (L) (.long y :: .long x :: st) w := fun H locs ls hP hS hl => lv_land C.1 C.2.1 hdg  (kk H locs ls hP hS hl)
theorem x_lor (C : Ctx E own cc rm nL g) {x y : Int64} (hdg : decode cc pc = .ok (.lor, 1))  (kk : Xx E nL g (pc + 1) (L) (.long (x ||| y) :: st) w) : Xx E nL g (pc) (L) (.long y :: .long x :: st) w := fun H locs ls hP hS hl => lv_lor C.1 C.2.1 hdg  (kk H locs ls hP hS hl)
theorem x_lshl (C : Ctx E own cc rm nL g) {x : Int64} {y : Int32} (hdg : decode cc pc = .ok (.lshl, 1))  (kk : Xx E nL g (pc + 1) (L) (.long (x <<< (y.toInt64 &&& 63)) :: st) w) : Xx E nL g (pc) (L) (.int y :: .long x :: st) w := fun H locs ls hP hS hl => lv_lshl C.1 C.2.1 hdg rfl (kk H locs ls hP hS hl)
theorem x_lshr (C : Ctx E own cc rm nL g) {x : Int64} {y : Int32} (hdg : decode cc pc = .ok (.lshr, 1))  (kk : Xx E nL g (pc + 1) (L) (.long (x >>> (y.toInt64 &&& 63)) :: st) w) : Xx E nL g (pc) (L) (.int y :: .long x :: st) w := fun H locs ls hP hS hl => lv_lshr C.1 C.2.1 hdg rfl (kk H locs ls hP hS hl)
theorem x_iushr (C : Ctx E own cc rm nL g) {x y : Int32} (hdg : decode cc pc = .ok (.iushr, 1))  (kk : Xx E nL g (pc + 1) (L) (.int ((x.toUInt32 >>> (y.toUInt32 &&& Int32.toUInt32 31)).toInt32) :: st) w) : Xx E nL g (pc) (L) (.int y :: .int x :: st) w := fun H locs ls hP hS hl => lv_iushr C.1 C.2.1 hdg rfl (kk H locs ls hP hS hl)
theorem x_lushr (C : Ctx E own cc rm nL g) {x : Int64} {y : Int32} (hdg : decode cc pc = .ok (.lushr, 1))  (kk : Xx E nL g (pc + 1) (L) (.long ((x.toUInt64 >>> (y.toInt64.toUInt64 &&& Int64.toUInt64 63)).toInt64) :: st) w) : Xx E nL g (pc) (L) (.int y :: .long x :: st) w := fun H locs ls hP hS hl => lv_lushr C.1 C.2.1 hdg rfl (kk H locs ls hP hS hl)
theorem x_l2i (C : Ctx E own cc rm nL g) {x : Int64} (hdg : decode cc pc = .ok (.l2i, 1))  (kk : Xx E nL g (pc + 1) (L) (.int x.toInt32 :: st) w) : Xx E nL g (pc) (L) (.long x :: st) w := fun H locs ls hP hS hl => lv_l2i C.1 C.2.1 hdg rfl (kk H locs ls hP hS hl)
theorem x_lsub (C : Ctx E own cc rm nL g) {x y : Int64} (hdg : decode cc pc = .ok (.lsub, 1))  (kk : Xx E nL g (pc + 1) (L) (.long (x - y) :: st) w) : Xx E nL g (pc) (L) (.long y :: .long x :: st) w := fun H locs ls hP hS hl => lv_lsub C.1 C.2.1 hdg  (kk H locs ls hP hS hl)
theorem x_ineg (C : Ctx E own cc rm nL g) {x : Int32} (hdg : decode cc pc = .ok (.ineg, 1))  (kk : Xx E nL g (pc + 1) (L) (.int (-x) :: st) w) : Xx E nL g (pc) (L) (.int x :: st) w := fun H locs ls hP hS hl => lv_ineg C.1 C.2.1 hdg  (kk H locs ls hP hS hl)
theorem x_idiv (C : Ctx E own cc rm nL g) {x y : Int32} (hdg : decode cc pc = .ok (.idiv, 1)) (hne : ¬ y = 0) (kk : Xx E nL g (pc + 1) (L) (.int (x / y) :: st) w) : Xx E nL g (pc) (L) (.int y :: .int x :: st) w := fun H locs ls hP hS hl => lv_idiv C.1 C.2.1 hdg hne (kk H locs ls hP hS hl)
theorem x_irem (C : Ctx E own cc rm nL g) {x y : Int32} (hdg : decode cc pc = .ok (.irem, 1)) (hne : ¬ y = 0) (kk : Xx E nL g (pc + 1) (L) (.int (x - x / y * y) :: st) w) : Xx E nL g (pc) (L) (.int y :: .int x :: st) w := fun H locs ls hP hS hl => lv_irem C.1 C.2.1 hdg hne (kk H locs ls hP hS hl)
theorem x_lcmp (C : Ctx E own cc rm nL g) {x y : Int64} (hdg : decode cc pc = .ok (.lcmp, 1)) (kk : Xx E nL g (pc + 1) (L) (.int (lg_cmp x y) :: st) w) : Xx E nL g (pc) (L) (.long y :: .long x :: st) w := fun H locs ls hP hS hl => W.lcmp C.1 C.2.1 hdg (kk H locs ls hP hS hl)
theorem x_dup (C : Ctx E own cc rm nL g) {va : Value} (hdg : decode cc pc = .ok (.dup, 1)) (hva : va.category = 1) (kk : Xx E nL g (pc + 1) (L) (va :: va :: st) w) : Xx E nL g (pc) (L) (va :: st) w := fun H locs ls hP hS hl => lv_dup C.1 C.2.1 hdg hva (kk H locs ls hP hS hl)
theorem x_dup2 (C : Ctx E own cc rm nL g) {va vb : Value} (hdg : decode cc pc = .ok (.dup2, 1)) (hva : va.category = 1) (hvb : vb.category = 1) (kk : Xx E nL g (pc + 1) (L) (va :: vb :: va :: vb :: st) w) : Xx E nL g (pc) (L) (va :: vb :: st) w := fun H locs ls hP hS hl => lv_dup2_11 C.1 C.2.1 hdg hva hvb (kk H locs ls hP hS hl)
theorem x_dup2l (C : Ctx E own cc rm nL g) {va : Value} (hdg : decode cc pc = .ok (.dup2, 1)) (hva : va.category = 2) (kk : Xx E nL g (pc + 1) (L) (va :: va :: st) w) : Xx E nL g (pc) (L) (va :: st) w := fun H locs ls hP hS hl => lv_dup2_2 C.1 C.2.1 hdg hva (kk H locs ls hP hS hl)
theorem x_null (C : Ctx E own cc rm nL g)  (hdg : decode cc pc = .ok (.aconst_null, 1))  (kk : Xx E nL g (pc + 1) (L) (.null :: st) w) : Xx E nL g (pc) (L) (st) w := fun H locs ls hP hS hl => lv_null C.1 C.2.1 hdg  (kk H locs ls hP hS hl)
theorem x_iload_n (C : Ctx E own cc rm nL g) {j : Fin 4} {i : Nat} {x : Int32} (hdg : decode cc pc = .ok (.iload_n j, 1)) (k : Nat) (hi : (j : Nat) = i) (hk : L[k]? = some (i, .int x)) (kk : Xx E nL g (pc + 1) (L) (.int x :: st) w) : Xx E nL g (pc) (L) (st) w := fun H locs ls hP hS hl => lv_iload_n C.1 C.2.1 hdg hi (lv_at hl k hk) (kk H locs ls hP hS hl)
theorem x_iload (C : Ctx E own cc rm nL g) {i : Nat} {x : Int32} (hdg : decode cc pc = .ok (.iload i, 2)) (k : Nat) (hk : L[k]? = some (i, .int x)) (kk : Xx E nL g (pc + 2) (L) (.int x :: st) w) : Xx E nL g (pc) (L) (st) w := fun H locs ls hP hS hl => lv_iload C.1 C.2.1 hdg (lv_at hl k hk) (kk H locs ls hP hS hl)
theorem x_lload_n (C : Ctx E own cc rm nL g) {j : Fin 4} {i : Nat} {x : Int64} (hdg : decode cc pc = .ok (.lload_n j, 1)) (k : Nat) (hi : (j : Nat) = i) (hk : L[k]? = some (i, .long x)) (kk : Xx E nL g (pc + 1) (L) (.long x :: st) w) : Xx E nL g (pc) (L) (st) w := fun H locs ls hP hS hl => lv_lload_n C.1 C.2.1 hdg hi (lv_at hl k hk) (kk H locs ls hP hS hl)
theorem x_lload (C : Ctx E own cc rm nL g) {i : Nat} {x : Int64} (hdg : decode cc pc = .ok (.lload i, 2)) (k : Nat) (hk : L[k]? = some (i, .long x)) (kk : Xx E nL g (pc + 2) (L) (.long x :: st) w) : Xx E nL g (pc) (L) (st) w := fun H locs ls hP hS hl => lv_lload C.1 C.2.1 hdg (lv_at hl k hk) (kk H locs ls hP hS hl)
theorem x_aload_n (C : Ctx E own cc rm nL g) {j : Fin 4} {i : Nat} {x : Nat} (hdg : decode cc pc = .ok (.aload_n j, 1)) (k : Nat) (hi : (j : Nat) = i) (hk : L[k]? = some (i, .ref x)) (kk : Xx E nL g (pc + 1) (L) (.ref x :: st) w) : Xx E nL g (pc) (L) (st) w := fun H locs ls hP hS hl => lv_aload_n C.1 C.2.1 hdg hi (lv_at hl k hk) (kk H locs ls hP hS hl)
theorem x_aload (C : Ctx E own cc rm nL g) {i : Nat} {x : Nat} (hdg : decode cc pc = .ok (.aload i, 2)) (k : Nat) (hk : L[k]? = some (i, .ref x)) (kk : Xx E nL g (pc + 2) (L) (.ref x :: st) w) : Xx E nL g (pc) (L) (st) w := fun H locs ls hP hS hl => lv_aload C.1 C.2.1 hdg (lv_at hl k hk) (kk H locs ls hP hS hl)
theorem x_aload_nN (C : Ctx E own cc rm nL g) {j : Fin 4} {i : Nat} (hdg : decode cc pc = .ok (.aload_n j, 1)) (k : Nat) (hi : (j : Nat) = i) (hk : L[k]? = some (i, .null)) (kk : Xx E nL g (pc + 1) (L) (.null :: st) w) : Xx E nL g (pc) (L) (st) w := fun H locs ls hP hS hl => lv_aload_nN C.1 C.2.1 hdg hi (lv_at hl k hk) (kk H locs ls hP hS hl)
theorem x_istore_n (C : Ctx E own cc rm nL g) {j : Fin 4} {i : Nat} {x : Int32} {L' : List (Nat × Value)} (hdg : decode cc pc = .ok (.istore_n j, 1)) (hi : (j : Nat) = i) (hn : i < nL) (hL : (i, Value.int x) :: L.filter (fun q => !(q.1 == i) && !(q.1 + 1 == i && q.2.category == 2)) = L') (kk : Xx E nL g (pc + 1) (L') (st) w) : Xx E nL g (pc) (L) (.int x :: st) w := fun H locs ls hP hS hl => lv_istore_n C.1 C.2.1 hdg hi hl hn hL (fun ls' hl' => kk H locs ls' hP hS hl')
theorem x_istore (C : Ctx E own cc rm nL g) {i : Nat} {x : Int32} {L' : List (Nat × Value)} (hdg : decode cc pc = .ok (.istore i, 2)) (hn : i < nL) (hL : (i, Value.int x) :: L.filter (fun q => !(q.1 == i) && !(q.1 + 1 == i && q.2.category == 2)) = L') (kk : Xx E nL g (pc + 2) (L') (st) w) : Xx E nL g (pc) (L) (.int x :: st) w := fun H locs ls hP hS hl => lv_istore C.1 C.2.1 hdg hl hn hL (fun ls' hl' => kk H locs ls' hP hS hl')
theorem x_lstore_n (C : Ctx E own cc rm nL g) {j : Fin 4} {i : Nat} {x : Int64} {L' : List (Nat × Value)} (hdg : decode cc pc = .ok (.lstore_n j, 1)) (hi : (j : Nat) = i) (hn : i + 1 < nL) (hL : (i, Value.long x) :: L.filter (fun q => !(q.1 == i) && (!(q.1 == i + 1) && !(q.1 + 1 == i && q.2.category == 2))) = L') (kk : Xx E nL g (pc + 1) (L') (st) w) : Xx E nL g (pc) (L) (.long x :: st) w := fun H locs ls hP hS hl => lv_lstore_n C.1 C.2.1 hdg hi hl hn hL (fun ls' hl' => kk H locs ls' hP hS hl')
theorem x_lstore (C : Ctx E own cc rm nL g) {i : Nat} {x : Int64} {L' : List (Nat × Value)} (hdg : decode cc pc = .ok (.lstore i, 2)) (hn : i + 1 < nL) (hL : (i, Value.long x) :: L.filter (fun q => !(q.1 == i) && (!(q.1 == i + 1) && !(q.1 + 1 == i && q.2.category == 2))) = L') (kk : Xx E nL g (pc + 2) (L') (st) w) : Xx E nL g (pc) (L) (.long x :: st) w := fun H locs ls hP hS hl => lv_lstore C.1 C.2.1 hdg hl hn hL (fun ls' hl' => kk H locs ls' hP hS hl')
theorem x_astore_n (C : Ctx E own cc rm nL g) {j : Fin 4} {i : Nat} {x : Nat} {L' : List (Nat × Value)} (hdg : decode cc pc = .ok (.astore_n j, 1)) (hi : (j : Nat) = i) (hn : i < nL) (hL : (i, Value.ref x) :: L.filter (fun q => !(q.1 == i) && !(q.1 + 1 == i && q.2.category == 2)) = L') (kk : Xx E nL g (pc + 1) (L') (st) w) : Xx E nL g (pc) (L) (.ref x :: st) w := fun H locs ls hP hS hl => lv_astore_n C.1 C.2.1 hdg hi hl hn hL (fun ls' hl' => kk H locs ls' hP hS hl')
theorem x_astore (C : Ctx E own cc rm nL g) {i : Nat} {x : Nat} {L' : List (Nat × Value)} (hdg : decode cc pc = .ok (.astore i, 2)) (hn : i < nL) (hL : (i, Value.ref x) :: L.filter (fun q => !(q.1 == i) && !(q.1 + 1 == i && q.2.category == 2)) = L') (kk : Xx E nL g (pc + 2) (L') (st) w) : Xx E nL g (pc) (L) (.ref x :: st) w := fun H locs ls hP hS hl => lv_astore C.1 C.2.1 hdg hl hn hL (fun ls' hl' => kk H locs ls' hP hS hl')
theorem x_iinc (C : Ctx E own cc rm nL g) {i : Nat} {n : Int} {x v : Int32} {L' : List (Nat × Value)} (hdg : decode cc pc = .ok (.iinc i n, 3)) (k : Nat) (hk : L[k]? = some (i, .int x)) (hv : x + Int32.ofInt n = v) (hn : i < nL) (hL : (i, Value.int v) :: L.filter (fun q => !(q.1 == i) && !(q.1 + 1 == i && q.2.category == 2)) = L') (kk : Xx E nL g (pc + 3) (L') (st) w) : Xx E nL g (pc) (L) (st) w := fun H locs ls hP hS hl => lv_iinc C.1 C.2.1 hdg hl hk hv hn hL (fun ls' hl' => kk H locs ls' hP hS hl')
theorem x_sub {L' : List (Nat × Value)} (ks : List Nat) (hL : lv_pick L ks = L') (kk : Xx E nL g (pc) (L') (st) w) : Xx E nL g (pc) (L) (st) w := fun H locs ls hP hS hl => kk H locs ls hP hS (lv_sub hl ks hL)
theorem x_top {y x : Int32} (e : y = x) (kk : Xx E nL g (pc) (L) (.int y :: st) w) : Xx E nL g (pc) (L) (.int x :: st) w := e ▸ kk
theorem x_topl {y x : Int64} (e : y = x) (kk : Xx E nL g (pc) (L) (.long y :: st) w) : Xx E nL g (pc) (L) (.long x :: st) w := e ▸ kk
theorem x_w {w' : Wd} (e : w' = w) (kk : Xx E nL g (pc) (L) (st) w') : Xx E nL g (pc) (L) (st) w := e ▸ kk
theorem x_if_eq (C : Ctx E own cc rm nL g) {x : Int32} {off : Int} {tgt : Nat} (hdg : decode cc pc = .ok (.ifCond .eq off, 3)) (ht : (pc : Int) + off = (tgt : Int)) (kt : x = 0 → Xx E nL g (tgt) (L) (st) w) (kf : ¬ x = 0 → Xx E nL g (pc + 3) (L) (st) w) : Xx E nL g (pc) (L) (.int x :: st) w := fun H locs ls hP hS hl => lv_if_eq C.1 C.2.1 hdg ht (fun h => kt h H locs ls hP hS hl) (fun h => kf h H locs ls hP hS hl)
theorem x_if_ne (C : Ctx E own cc rm nL g) {x : Int32} {off : Int} {tgt : Nat} (hdg : decode cc pc = .ok (.ifCond .ne off, 3)) (ht : (pc : Int) + off = (tgt : Int)) (kt : ¬ x = 0 → Xx E nL g (tgt) (L) (st) w) (kf : x = 0 → Xx E nL g (pc + 3) (L) (st) w) : Xx E nL g (pc) (L) (.int x :: st) w := fun H locs ls hP hS hl => lv_if_ne C.1 C.2.1 hdg ht (fun h => kt h H locs ls hP hS hl) (fun h => kf h H locs ls hP hS hl)
theorem x_if_lt (C : Ctx E own cc rm nL g) {x : Int32} {off : Int} {tgt : Nat} (hdg : decode cc pc = .ok (.ifCond .lt off, 3)) (ht : (pc : Int) + off = (tgt : Int)) (kt : x < 0 → Xx E nL g (tgt) (L) (st) w) (kf : ¬ x < 0 → Xx E nL g (pc + 3) (L) (st) w) : Xx E nL g (pc) (L) (.int x :: st) w := fun H locs ls hP hS hl => lv_if_lt C.1 C.2.1 hdg ht (fun h => kt h H locs ls hP hS hl) (fun h => kf h H locs ls hP hS hl)
theorem x_if_ge (C : Ctx E own cc rm nL g) {x : Int32} {off : Int} {tgt : Nat} (hdg : decode cc pc = .ok (.ifCond .ge off, 3)) (ht : (pc : Int) + off = (tgt : Int)) (kt : 0 ≤ x → Xx E nL g (tgt) (L) (st) w) (kf : ¬ 0 ≤ x → Xx E nL g (pc + 3) (L) (st) w) : Xx E nL g (pc) (L) (.int x :: st) w := fun H locs ls hP hS hl => lv_if_ge C.1 C.2.1 hdg ht (fun h => kt h H locs ls hP hS hl) (fun h => kf h H locs ls hP hS hl)
theorem x_if_gt (C : Ctx E own cc rm nL g) {x : Int32} {off : Int} {tgt : Nat} (hdg : decode cc pc = .ok (.ifCond .gt off, 3)) (ht : (pc : Int) + off = (tgt : Int)) (kt : 0 < x → Xx E nL g (tgt) (L) (st) w) (kf : ¬ 0 < x → Xx E nL g (pc + 3) (L) (st) w) : Xx E nL g (pc) (L) (.int x :: st) w := fun H locs ls hP hS hl => lv_if_gt C.1 C.2.1 hdg ht (fun h => kt h H locs ls hP hS hl) (fun h => kf h H locs ls hP hS hl)
theorem x_if_le (C : Ctx E own cc rm nL g) {x : Int32} {off : Int} {tgt : Nat} (hdg : decode cc pc = .ok (.ifCond .le off, 3)) (ht : (pc : Int) + off = (tgt : Int)) (kt : x ≤ 0 → Xx E nL g (tgt) (L) (st) w) (kf : ¬ x ≤ 0 → Xx E nL g (pc + 3) (L) (st) w) : Xx E nL g (pc) (L) (.int x :: st) w := fun H locs ls hP hS hl => lv_if_le C.1 C.2.1 hdg ht (fun h => kt h H locs ls hP hS hl) (fun h => kf h H locs ls hP hS hl)
theorem x_icmp_eq (C : Ctx E own cc rm nL g) {x y : Int32} {off : Int} {tgt : Nat} (hdg : decode cc pc = .ok (.if_icmp .eq off, 3)) (ht : (pc : Int) + off = (tgt : Int)) (kt : x = y → Xx E nL g (tgt) (L) (st) w) (kf : ¬ x = y → Xx E nL g (pc + 3) (L) (st) w) : Xx E nL g (pc) (L) (.int y :: .int x :: st) w := fun H locs ls hP hS hl => lv_icmp_eq C.1 C.2.1 hdg ht (fun h => kt h H locs ls hP hS hl) (fun h => kf h H locs ls hP hS hl)
theorem x_icmp_ne (C : Ctx E own cc rm nL g) {x y : Int32} {off : Int} {tgt : Nat} (hdg : decode cc pc = .ok (.if_icmp .ne off, 3)) (ht : (pc : Int) + off = (tgt : Int)) (kt : ¬ x = y → Xx E nL g (tgt) (L) (st) w) (kf : x = y → Xx E nL g (pc + 3) (L) (st) w) : Xx E nL g (pc) (L) (.int y :: .int x :: st) w := fun H locs ls hP hS hl => lv_icmp_ne C.1 C.2.1 hdg ht (fun h => kt h H locs ls hP hS hl) (fun h => kf h H locs ls hP hS hl)
theorem x_icmp_lt (C : Ctx E own cc rm nL g) {x y : Int32} {off : Int} {tgt : Nat} (hdg : decode cc pc = .ok (.if_icmp .lt off, 3)) (ht : (pc : Int) + off = (tgt : Int)) (kt : x < y → Xx E nL g (tgt) (L) (st) w) (kf : ¬ x < y → Xx E nL g (pc + 3) (L) (st) w) : Xx E nL g (pc) (L) (.int y :: .int x :: st) w := fun H locs ls hP hS hl => lv_icmp_lt C.1 C.2.1 hdg ht (fun h => kt h H locs ls hP hS hl) (fun h => kf h H locs ls hP hS hl)
theorem x_icmp_ge (C : Ctx E own cc rm nL g) {x y : Int32} {off : Int} {tgt : Nat} (hdg : decode cc pc = .ok (.if_icmp .ge off, 3)) (ht : (pc : Int) + off = (tgt : Int)) (kt : y ≤ x → Xx E nL g (tgt) (L) (st) w) (kf : ¬ y ≤ x → Xx E nL g (pc + 3) (L) (st) w) : Xx E nL g (pc) (L) (.int y :: .int x :: st) w := fun H locs ls hP hS hl => lv_icmp_ge C.1 C.2.1 hdg ht (fun h => kt h H locs ls hP hS hl) (fun h => kf h H locs ls hP hS hl)
theorem x_icmp_gt (C : Ctx E own cc rm nL g) {x y : Int32} {off : Int} {tgt : Nat} (hdg : decode cc pc = .ok (.if_icmp .gt off, 3)) (ht : (pc : Int) + off = (tgt : Int)) (kt : y < x → Xx E nL g (tgt) (L) (st) w) (kf : ¬ y < x → Xx E nL g (pc + 3) (L) (st) w) : Xx E nL g (pc) (L) (.int y :: .int x :: st) w := fun H locs ls hP hS hl => lv_icmp_gt C.1 C.2.1 hdg ht (fun h => kt h H locs ls hP hS hl) (fun h => kf h H locs ls hP hS hl)
theorem x_icmp_le (C : Ctx E own cc rm nL g) {x y : Int32} {off : Int} {tgt : Nat} (hdg : decode cc pc = .ok (.if_icmp .le off, 3)) (ht : (pc : Int) + off = (tgt : Int)) (kt : x ≤ y → Xx E nL g (tgt) (L) (st) w) (kf : ¬ x ≤ y → Xx E nL g (pc + 3) (L) (st) w) : Xx E nL g (pc) (L) (.int y :: .int x :: st) w := fun H locs ls hP hS hl => lv_icmp_le C.1 C.2.1 hdg ht (fun h => kt h H locs ls hP hS hl) (fun h => kf h H locs ls hP hS hl)
theorem x_goto (C : Ctx E own cc rm nL g) {off : Int} {tgt : Nat} (hdg : decode cc pc = .ok (.goto off, 3)) (ht : (pc : Int) + off = (tgt : Int)) (kk : Xx E nL g (tgt) (L) (st) w) : Xx E nL g (pc) (L) (st) w := fun H locs ls hP hS hl => lv_goto C.1 C.2.1 hdg ht (kk H locs ls hP hS hl)
theorem x_tableIn (C : Ctx E own cc rm nL g) {dflt lo hi : Int} {offs : Array Int} {len : Nat} {x : Int32} {off : Int} {tgt : Nat} (hdg : decode cc pc = .ok (.tableswitch dflt lo hi offs, len)) (h1 : ¬ x.toInt < lo) (h2 : ¬ hi < x.toInt) (ho : offs[(x.toInt - lo).toNat]? = some off) (ht : (pc : Int) + off = (tgt : Int)) (kk : Xx E nL g (tgt) (L) (st) w) : Xx E nL g (pc) (L) (.int x :: st) w := fun H locs ls hP hS hl => lv_tableIn C.1 C.2.1 hdg h1 h2 ho ht (kk H locs ls hP hS hl)
theorem x_tableOut (C : Ctx E own cc rm nL g) {dflt lo hi : Int} {offs : Array Int} {len : Nat} {x : Int32} {tgt : Nat} (hdg : decode cc pc = .ok (.tableswitch dflt lo hi offs, len)) (h : x.toInt < lo ∨ hi < x.toInt) (ht : (pc : Int) + dflt = (tgt : Int)) (kk : Xx E nL g (tgt) (L) (st) w) : Xx E nL g (pc) (L) (.int x :: st) w := fun H locs ls hP hS hl => lv_tableOut C.1 C.2.1 hdg h ht (kk H locs ls hP hS hl)
theorem x_lookup (C : Ctx E own cc rm nL g) {dflt : Int} {ps : Array (Int × Int)} {len : Nat} {x : Int32} {off : Int} {tgt : Nat} (hdg : decode cc pc = .ok (.lookupswitch dflt ps, len)) (hp : (ps.toList.zip (ps.toList.drop 1)).all (fun (a, next) => a.1 < next.1) = true) (ho : Op.lookupswitch.offset ps.toList dflt x.toInt = off) (ht : (pc : Int) + off = (tgt : Int)) (kk : Xx E nL g (tgt) (L) (st) w) : Xx E nL g (pc) (L) (.int x :: st) w := fun H locs ls hP hS hl => lv_lookup C.1 C.2.1 hdg hp ho ht (kk H locs ls hP hS hl)
theorem x_ifnull (C : Ctx E own cc rm nL g) {x : Nat} {off : Int} (hdg : decode cc pc = .ok (.ifnull off, 3)) (kk : Xx E nL g (pc + 3) (L) (st) w) : Xx E nL g (pc) (L) (.ref x :: st) w := fun H locs ls hP hS hl => lv_ifnull C.1 C.2.1 hdg (kk H locs ls hP hS hl)
theorem x_ifnullN (C : Ctx E own cc rm nL g) {off : Int} {tgt : Nat} (hdg : decode cc pc = .ok (.ifnull off, 3)) (ht : (pc : Int) + off = (tgt : Int)) (kk : Xx E nL g (tgt) (L) (st) w) : Xx E nL g (pc) (L) (.null :: st) w := fun H locs ls hP hS hl => lv_ifnullN C.1 C.2.1 hdg ht (kk H locs ls hP hS hl)
theorem x_ldc (C : Ctx E own cc rm nL g) {index : Nat} {v : Int32} (hc : Cond.constant own index v ∈ gd_tbl) (hdg : decode cc pc = .ok (.ldc index, 2)) (kk : Xx E nL g (pc + 2) (L) (.int v :: st) w) : Xx E nL g (pc) (L) (st) w := fun H locs ls hP hS hl => lv_ldc C.1 C.2.1 C.2.2.2.1 (C.2.2.2.2.1 _ hc) hdg (kk H locs ls hP hS hl)
theorem x_ldcw (C : Ctx E own cc rm nL g) {index : Nat} {v : Int32} (hc : Cond.constant own index v ∈ gd_tbl) (hdg : decode cc pc = .ok (.ldc_w index, 3)) (kk : Xx E nL g (pc + 3) (L) (.int v :: st) w) : Xx E nL g (pc) (L) (st) w := fun H locs ls hP hS hl => lv_ldcw C.1 C.2.1 C.2.2.2.1 (C.2.2.2.2.1 _ hc) hdg (kk H locs ls hP hS hl)
theorem x_ldc2 (C : Ctx E own cc rm nL g) {index : Nat} {v : Int64} (hc : Cond.constantLong own index v ∈ gd_tbl) (hdg : decode cc pc = .ok (.ldc2_w index, 3)) (kk : Xx E nL g (pc + 3) (L) (.long v :: st) w) : Xx E nL g (pc) (L) (st) w := fun H locs ls hP hS hl => lv_ldc2 C.1 C.2.1 C.2.2.2.1 (C.2.2.2.2.1 _ hc) hdg (kk H locs ls hP hS hl)
theorem x_get (C : Ctx E own cc rm nL g) {Cn : String} {T : u_T} {N ci idx : Nat} (hin : ∀ w ∈ u_ws Cn T N, w ∈ gd_tbl) (hcl : vwCl[ci]? = some (Cn, T, N)) {k : Nat} (hk : k < 106) {fs : List Value} (he : enc g k (w.1 k) (w.2 k) = .inr (ci, fs)) (j : Nat) (hj : j < N) (hlink : Cond.fieldLink own idx Cn (T j).2.1 (T j).2.2.1 ∈ gd_tbl) (hs : (T j).1 = Cn) {v : Value} (hv : fs[j]? = some v) (hdg : decode cc pc = .ok (.getfield idx, 3)) (kk : Xx E nL g (pc + 3) (L) (v :: st) w) : Xx E nL g (pc) (L) (.ref (ad g k) :: st) w := fun H locs ls hP hS hl => va_get (D := g.1) (ref := Cn) C.1 C.2.1 C.2.2.2.2.1 hin C.2.2.2.1 C.2.2.2.2.2.1.1 hP k ((wl_at hk).trans (by rw [he])) hcl j hj (C.2.2.2.2.1 _ hlink) (fun x h => by rw [hs] at h; exact h) hv hdg (kk H locs ls hP hS hl)
theorem x_getN (C : Ctx E own cc rm nL g) {Cn : String} {T : u_T} {N ci idx : Nat} (hin : ∀ w ∈ u_ws Cn T N, w ∈ gd_tbl) (hcl : vwCl[ci]? = some (Cn, T, N)) {k : Nat} (hk : k < 106) {fs : List Value} (he : enc g k (w.1 k) (w.2 k) = .inr (ci, fs)) (j : Nat) (hj : j < N) {host : String} (hlink : Cond.fieldLinkNest own idx Cn (T j).2.1 (T j).2.2.1 host ∈ ns_tbl) (hs : (T j).1 = Cn) {v : Value} (hv : fs[j]? = some v) (hdg : decode cc pc = .ok (.getfield idx, 3)) (kk : Xx E nL g (pc + 3) (L) (v :: st) w) : Xx E nL g (pc) (L) (.ref (ad g k) :: st) w := fun H locs ls hP hS hl => va_getN (D := g.1) (ref := Cn) C.1 C.2.1 C.2.2.2.2.1 hin C.2.2.2.1 C.2.2.2.2.2.1.1 hP k ((wl_at hk).trans (by rw [he])) hcl j hj (va_Nw.use rfl (C.2.2.2.2.2.1.2 _ hlink)) (fun x h => by rw [hs] at h; exact h) hv hdg (kk H locs ls hP hS hl)
theorem x_put (C : Ctx E own cc rm nL g) {Cn : String} {T : u_T} {N ci idx : Nat} (hin : ∀ w ∈ u_ws Cn T N, w ∈ gd_tbl) (hcl : vwCl[ci]? = some (Cn, T, N)) {k : Nat} (hk : k < 106) {fs : List Value} (he : enc g k (w.1 k) (w.2 k) = .inr (ci, fs)) (j : Nat) (hj : j < N) (hlink : Cond.fieldLink own idx Cn (T j).2.1 (T j).2.2.1 ∈ gd_tbl) (hs : (T j).1 = Cn) (ty0 : Nat → FieldType) (hty : ∀ k, k < N → parseFieldDescriptor (T k).2.2.1 = some (ty0 k)) (hnm : ∀ a, a < N → ∀ b, b < N → a ≠ b → (T a).2.1 ≠ (T b).2.1) (hfin : (T j).2.2.2 = false) {ty : FieldType} {v : Value} (hd : parseFieldDescriptor (T j).2.2.1 = some ty) (hn : narrow ty v = v) (hfit : fits ty v = true) (hlen : j < fs.length) {w' : Wd} (he' : enc g k (w'.1 k) (w'.2 k) = .inr (ci, fs.set j v)) (ho : ∀ i, i ≠ k → w'.1 i = w.1 i ∧ w'.2 i = w.2 i) (hdg : decode cc pc = .ok (.putfield idx, 3)) (kk : Xx E nL g (pc + 3) (L) (st) w') : Xx E nL g (pc) (L) (v :: .ref (ad g k) :: st) w := fun H locs ls hP hS hl => va_put (D := g.1) (ref := Cn) C.1 C.2.1 C.2.2.2.2.1 hin ty0 hty hnm C.2.2.2.1 C.2.2.2.2.2.1.1 hP (wl_D g w) hS k ((wl_at hk).trans (by rw [he])) hcl j hj (C.2.2.2.2.1 _ hlink) (fun x h => by rw [hs] at h; exact h) hfin hd hn hfit hlen hdg (fun H1 l1 hP1 _ hS1 => kk H1 l1 ls (wl_set hk he' ho ▸ hP1) hS1 hl)
theorem x_putN (C : Ctx E own cc rm nL g) {Cn : String} {T : u_T} {N ci idx : Nat} (hin : ∀ w ∈ u_ws Cn T N, w ∈ gd_tbl) (hcl : vwCl[ci]? = some (Cn, T, N)) {k : Nat} (hk : k < 106) {fs : List Value} (he : enc g k (w.1 k) (w.2 k) = .inr (ci, fs)) (j : Nat) (hj : j < N) {host : String} (hlink : Cond.fieldLinkNest own idx Cn (T j).2.1 (T j).2.2.1 host ∈ ns_tbl) (hs : (T j).1 = Cn) (ty0 : Nat → FieldType) (hty : ∀ k, k < N → parseFieldDescriptor (T k).2.2.1 = some (ty0 k)) (hnm : ∀ a, a < N → ∀ b, b < N → a ≠ b → (T a).2.1 ≠ (T b).2.1) (hfin : (T j).2.2.2 = false) {ty : FieldType} {v : Value} (hd : parseFieldDescriptor (T j).2.2.1 = some ty) (hn : narrow ty v = v) (hfit : fits ty v = true) (hlen : j < fs.length) {w' : Wd} (he' : enc g k (w'.1 k) (w'.2 k) = .inr (ci, fs.set j v)) (ho : ∀ i, i ≠ k → w'.1 i = w.1 i ∧ w'.2 i = w.2 i) (hdg : decode cc pc = .ok (.putfield idx, 3)) (kk : Xx E nL g (pc + 3) (L) (st) w') : Xx E nL g (pc) (L) (v :: .ref (ad g k) :: st) w := fun H locs ls hP hS hl => va_putN (D := g.1) (ref := Cn) C.1 C.2.1 C.2.2.2.2.1 hin ty0 hty hnm C.2.2.2.1 C.2.2.2.2.2.1.1 hP (wl_D g w) hS k ((wl_at hk).trans (by rw [he])) hcl j hj (va_Nw.use rfl (C.2.2.2.2.2.1.2 _ hlink)) (fun x h => by rw [hs] at h; exact h) hfin hd hn hfit hlen hdg (fun H1 l1 hP1 _ hS1 => kk H1 l1 ls (wl_set hk he' ho ▸ hP1) hS1 hl)
theorem enc7 {g : Gx} {k : Nat} (h : kindOf k = 7) (r : Nat → Int32) (t : Int64) : enc g k r t = .inl (g.2.2.1, lenOf k, .inl r) := by unfold enc; rw [h]; rfl
theorem enc8 {g : Gx} {k : Nat} (h : kindOf k = 8) (r : Nat → Int32) (t : Int64) : enc g k r t = .inl (g.2.2.2.1, lenOf k, .inl r) := by unfold enc; rw [h]; rfl
theorem enc9 {g : Gx} (r : Nat → Int32) (t : Int64) : enc g 25 r t = .inl (g.2.2.2.2, 10, .inr (.inr (.inr (.inr (fun j => some (ad g (26 + 5 * j))))))) := rfl
theorem x_iald (C : Ctx E own cc rm nL g) {a n : Nat} {i : Int32} (ha : kindOf a = 7) (hn : lenOf a = n) (hi : inb i n = true) (hdg : decode cc pc = .ok (.iaload, 1)) (kk : Xx E nL g (pc + 1) (L) (.int (wget w a i.toNatClampNeg) :: st) w) : Xx E nL g (pc) (L) (.int i :: .ref (ad g a) :: st) w := by
  subst hn
  exact fun H locs ls hP hS hl => va_iald (D := g.1) (f := w.1 a) (n := lenOf a) C.1 C.2.1 C.2.2.2.2.2.1.1 hP a 0 ((wl_at (kind_lt ha (by decide))).trans (by rw [enc7 ha])) rfl (inb_in hi) hdg (kk H locs ls hP hS hl)
theorem x_zald (C : Ctx E own cc rm nL g) {a n : Nat} {i : Int32} (ha : kindOf a = 8) (hn : lenOf a = n) (hi : inb i n = true) (hdg : decode cc pc = .ok (.baload, 1)) (kk : Xx E nL g (pc + 1) (L) (.int (wget w a i.toNatClampNeg) :: st) w) : Xx E nL g (pc) (L) (.int i :: .ref (ad g a) :: st) w := by
  subst hn
  exact fun H locs ls hP hS hl => va_zald (D := g.1) (f := w.1 a) (n := lenOf a) C.1 C.2.1 C.2.2.2.2.2.1.1 hP a 1 ((wl_at (kind_lt ha (by decide))).trans (by rw [enc8 ha])) rfl (inb_in hi) hdg (kk H locs ls hP hS hl)
theorem x_aald (C : Ctx E own cc rm nL g) {i : Int32} (hi : inb i 10 = true) (hdg : decode cc pc = .ok (.aaload, 1)) (kk : Xx E nL g (pc + 1) (L) (.ref (ad g (26 + 5 * i.toNatClampNeg)) :: st) w) : Xx E nL g (pc) (L) (.int i :: .ref (ad g 25) :: st) w := fun H locs ls hP hS hl => va_aldq (D := g.1) C.1 C.2.1 C.2.2.2.2.2.1.1 hP 25 2 ((wl_at (by decide)).trans rfl) rfl (inb_in hi) hdg (kk H locs ls hP hS hl)
theorem wset_row (w : Wd) (a j : Nat) (v : Int32) : (wset w a j v).1 a = upd (w.1 a) j v := by
  funext b
  by_cases h : b = j
  · subst h
    simp [wset, upd]
  · simp [wset, upd, h]
theorem wcpy_row (w : Wd) (a b n : Nat) : (wcpy w a b n).1 b = va_cpy (w.1 a) (w.1 b) 0 0 n := by
  funext j
  by_cases h : j < n <;> simp [wcpy, va_cpy, h]
theorem wl_iast {g : Gx} {w : Wd} {a : Nat} (ha : kindOf a = 7) (i : Nat) (v : Int32) : (wl g w).set a (ad g a, .inl (g.2.2.1, lenOf a, .inl (upd (w.1 a) i v))) = wl g (wset w a i v) := wl_set (kind_lt ha (by decide)) (by rw [enc7 ha, wset_row]) (wset_off w a i v)
theorem wl_zast {g : Gx} {w : Wd} {a : Nat} (ha : kindOf a = 8) (i : Nat) (v : Int32) : (wl g w).set a (ad g a, .inl (g.2.2.2.1, lenOf a, .inl (upd (w.1 a) i v))) = wl g (wset w a i v) := wl_set (kind_lt ha (by decide)) (by rw [enc8 ha, wset_row]) (wset_off w a i v)
theorem wl_cpy {g : Gx} {w : Wd} {a b : Nat} (hb : kindOf b = 7) (n : Nat) : (wl g w).set b (ad g b, .inl (g.2.2.1, lenOf b, .inl (va_cpy (w.1 a) (w.1 b) 0 0 n))) = wl g (wcpy w a b n) := wl_set (kind_lt hb (by decide)) (by rw [enc7 hb, wcpy_row]) (wcpy_off w a b n)
theorem x_iast (C : Ctx E own cc rm nL g) {a n : Nat} {i v : Int32} (ha : kindOf a = 7) (hn : lenOf a = n) (hi : inb i n = true) (hdg : decode cc pc = .ok (.iastore, 1)) (kk : Xx E nL g (pc + 1) (L) (st) (wset w a i.toNatClampNeg v)) : Xx E nL g (pc) (L) (.int v :: .int i :: .ref (ad g a) :: st) w := by
  subst hn
  exact fun H locs ls hP hS hl => va_iast (D := g.1) (f := w.1 a) (n := lenOf a) C.1 C.2.1 C.2.2.2.2.2.1.1 hP (wl_D g w) hS a 0 ((wl_at (kind_lt ha (by decide))).trans (by rw [enc7 ha])) rfl (inb_in hi) hdg (fun H1 l1 hP1 _ hS1 => kk H1 l1 ls (by rw [wl_iast ha] at hP1; exact hP1) hS1 hl)
theorem x_zast (C : Ctx E own cc rm nL g) {a n : Nat} {i v : Int32} (ha : kindOf a = 8) (hn : lenOf a = n) (hi : inb i n = true) (hv : vp_nar .boolean v = v) (hdg : decode cc pc = .ok (.bastore, 1)) (kk : Xx E nL g (pc + 1) (L) (st) (wset w a i.toNatClampNeg v)) : Xx E nL g (pc) (L) (.int v :: .int i :: .ref (ad g a) :: st) w := by
  subst hn
  exact fun H locs ls hP hS hl => va_zast (D := g.1) (f := w.1 a) (n := lenOf a) C.1 C.2.1 C.2.2.2.2.2.1.1 hP (wl_D g w) hS a 1 ((wl_at (kind_lt ha (by decide))).trans (by rw [enc8 ha])) rfl (inb_in hi) hdg (fun H1 l1 hP1 _ hS1 => kk H1 l1 ls (by rw [hv, wl_zast ha] at hP1; exact hP1) hS1 hl)
theorem x_alen (C : Ctx E own cc rm nL g) {a : Nat} {v : Int32} (ha : kindOf a = 7) (hn : Int32.ofNat (lenOf a) = v) (hdg : decode cc pc = .ok (.arraylength, 1)) (kk : Xx E nL g (pc + 1) (L) (.int v :: st) w) : Xx E nL g (pc) (L) (.ref (ad g a) :: st) w := fun H locs ls hP hS hl => va_alen (D := g.1) (x := (lenOf a, .inl (w.1 a))) C.1 C.2.1 C.2.2.2.2.2.1.1 hP a 0 ((wl_at (kind_lt ha (by decide))).trans (by rw [enc7 ha])) (ty := .int) rfl hn hdg (kk H locs ls hP hS hl)
theorem x_mmax (C : Ctx E own cc rm nL g) {idx : Nat} (hlink : Cond.methodLink own idx Lib.Math.max.name ∈ gd_tbl) (hstat : Cond.static Lib.Math.max.name ∈ gd_tbl) (hini : Cond.initialized "java/lang/Math" ∈ gd_tbl) (hcode : Cond.code Lib.Math.max.name Lib.Math.max.code 2 (some .int) ∈ gd_tbl) (hf : 1 ≤ rm.frames) (hlo : (st.map fun v => v.category).sum + 13 ≤ rm.locals) {x y : Int32} (hdg : decode cc pc = .ok (.invokestatic idx, 3)) (kk : Xx E nL g (pc + 3) (L) (.int (if x < y then y else x) :: st) w) : Xx E nL g (pc) (L) (.int y :: .int x :: st) w := fun H locs ls hP hS hl => va_mmax C.1 C.2.1 (C.2.2.1.trans hl.1.symm) C.2.2.2.1 (C.2.2.2.2.1 _ hlink) (C.2.2.2.2.1 _ hstat) (C.2.2.2.2.1 _ hini) (C.2.2.2.2.1 _ hcode) (C.2.2.2.2.2.2.1 ▸ hf) (C.2.2.2.2.2.2.1 ▸ hlo) (C.2.2.2.2.2.2.1 ▸ C.2.2.2.2.2.2.2.1) (C.2.2.2.2.2.2.1 ▸ C.2.2.2.2.2.2.2.2) hdg (kk H locs ls hP hS hl)
theorem x_mmin (C : Ctx E own cc rm nL g) {idx : Nat} (hlink : Cond.methodLink own idx Lib.Math.min.name ∈ gd_tbl) (hstat : Cond.static Lib.Math.min.name ∈ gd_tbl) (hini : Cond.initialized "java/lang/Math" ∈ gd_tbl) (hcode : Cond.code Lib.Math.min.name Lib.Math.min.code 2 (some .int) ∈ gd_tbl) (hf : 1 ≤ rm.frames) (hlo : (st.map fun v => v.category).sum + 13 ≤ rm.locals) {x y : Int32} (hdg : decode cc pc = .ok (.invokestatic idx, 3)) (kk : Xx E nL g (pc + 3) (L) (.int (if y < x then y else x) :: st) w) : Xx E nL g (pc) (L) (.int y :: .int x :: st) w := fun H locs ls hP hS hl => va_mmin C.1 C.2.1 (C.2.2.1.trans hl.1.symm) C.2.2.2.1 (C.2.2.2.2.1 _ hlink) (C.2.2.2.2.1 _ hstat) (C.2.2.2.2.1 _ hini) (C.2.2.2.2.1 _ hcode) (C.2.2.2.2.2.2.1 ▸ hf) (C.2.2.2.2.2.2.1 ▸ hlo) (C.2.2.2.2.2.2.1 ▸ C.2.2.2.2.2.2.2.1) (C.2.2.2.2.2.2.1 ▸ C.2.2.2.2.2.2.2.2) hdg (kk H locs ls hP hS hl)
theorem x_mabs (C : Ctx E own cc rm nL g) {idx : Nat} (hlink : Cond.methodLink own idx Lib.Math.abs.name ∈ gd_tbl) (hstat : Cond.static Lib.Math.abs.name ∈ gd_tbl) (hini : Cond.initialized "java/lang/Math" ∈ gd_tbl) (hcode : Cond.code Lib.Math.abs.name Lib.Math.abs.code 1 (some .int) ∈ gd_tbl) (hf : 1 ≤ rm.frames) (hlo : (st.map fun v => v.category).sum + 13 ≤ rm.locals) {x y : Int32} (hdg : decode cc pc = .ok (.invokestatic idx, 3)) (kk : Xx E nL g (pc + 3) (L) (.int (if 0 ≤ x then x else 0 - x) :: st) w) : Xx E nL g (pc) (L) (.int x :: st) w := fun H locs ls hP hS hl => va_mabs C.1 C.2.1 (C.2.2.1.trans hl.1.symm) C.2.2.2.1 (C.2.2.2.2.1 _ hlink) (C.2.2.2.2.1 _ hstat) (C.2.2.2.2.1 _ hini) (C.2.2.2.2.1 _ hcode) (C.2.2.2.2.2.2.1 ▸ hf) (C.2.2.2.2.2.2.1 ▸ hlo) (C.2.2.2.2.2.2.1 ▸ C.2.2.2.2.2.2.2.1) (C.2.2.2.2.2.2.1 ▸ C.2.2.2.2.2.2.2.2) hdg (kk H locs ls hP hS hl)
theorem x_copy (C : Ctx E own cc rm nL g) {idx : Nat} (hlink : Cond.methodLink own idx arraycopyName ∈ gd_tbl) (hnat : Cond.native arraycopyName ∈ gd_tbl) (hstat : Cond.static arraycopyName ∈ gd_tbl) (hini : Cond.initialized "java/lang/System" ∈ gd_tbl) {a b : Nat} (ha : kindOf a = 7) (hb : kindOf b = 7) (la : lenOf a = 6) (lb : lenOf b = 6) (hf : 1 ≤ rm.frames) (hlo : (st.map fun v => v.category).sum + (nativeFrameWords "java/lang/System" "arraycopy" 5 + 11) ≤ rm.locals) (hdg : decode cc pc = .ok (.invokestatic idx, 3)) (kk : Xx E nL g (pc + 3) (L) (st) (wcpy w a b 6)) : Xx E nL g (pc) (L) (.int 6 :: .int 0 :: .ref (ad g b) :: .int 0 :: .ref (ad g a) :: st) w := fun H locs ls hP hS hl => va_copyi (D := g.1) (f := w.1 a) (g := w.1 b) (ty := .int) (sp := 0) (dp := 0) (n := 6) C.1 C.2.1 (C.2.2.1.trans hl.1.symm) C.2.2.2.1 (C.2.2.2.2.1 _ hlink) (C.2.2.2.2.1 _ hnat) (C.2.2.2.2.1 _ hstat) (C.2.2.2.2.1 _ hini) C.2.2.2.2.2.1.1 hP (wl_D g w) hS a b 0 0 ((wl_at (kind_lt ha (by decide))).trans (by rw [enc7 ha])) ((wl_at (kind_lt hb (by decide))).trans (by rw [enc7 hb])) rfl rfl rfl (by decide) (by decide) (by decide) (by rw [la]; decide) (by rw [lb]; decide) (fun _ _ => rfl) (C.2.2.2.2.2.2.1 ▸ hf) (C.2.2.2.2.2.2.1 ▸ hlo) hdg (fun H1 l1 hP1 _ hS1 => kk H1 l1 ls (by rw [← wl_cpy hb]; exact hP1) hS1 hl)
theorem x_iret (C : Ctx E own cc rm nL g) {w' : Wd} {v : Int32} (hR : Rets E g (some .int) (some (.int v)) w') (hw : w = w') (hdg : decode cc pc = .ok (.ireturn, 1)) : Xx E nL g (pc) (L) ([.int v]) w := by
  subst hw
  intro H locs ls hP hS hl
  rw [hR.1]
  exact W.iret C.1 C.2.1 hR.2.1 (fun t ht _ => ⟨rfl, by rw [ht]; exact hP, hS.F ht⟩) hS.2.2 hdg hR.2.2
theorem x_lret (C : Ctx E own cc rm nL g) {w' : Wd} {v : Int64} (hR : Rets E g (some .long) (some (.long v)) w') (hw : w = w') (hdg : decode cc pc = .ok (.lreturn, 1)) : Xx E nL g (pc) (L) ([.long v]) w := by
  subst hw
  intro H locs ls hP hS hl
  rw [hR.1]
  exact W.lret C.1 C.2.1 hR.2.1 (fun t ht _ => ⟨rfl, by rw [ht]; exact hP, hS.F ht⟩) hS.2.2 hdg hR.2.2
theorem x_zret (C : Ctx E own cc rm nL g) {w' : Wd} {v : Int32} (hR : Rets E g (some .boolean) (some (.int v)) w') (hn : narrow .boolean (.int v) = .int v) (hw : w = w') (hdg : decode cc pc = .ok (.ireturn, 1)) : Xx E nL g (pc) (L) ([.int v]) w := by
  subst hw
  intro H locs ls hP hS hl
  rw [hR.1]
  exact W.zret C.1 C.2.1 hR.2.1 hn (fun t ht _ => ⟨rfl, by rw [ht]; exact hP, hS.F ht⟩) hS.2.2 hdg hR.2.2
theorem x_vret (C : Ctx E own cc rm nL g) {w' : Wd} (hR : Rets E g none none w') (hw : w = w') (hdg : decode cc pc = .ok (.return_, 1)) : Xx E nL g (pc) (L) ([]) w := by
  subst hw
  intro H locs ls hP hS hl
  rw [hR.1]
  exact W.vret C.1 C.2.1 hR.2.1 (fun t ht _ => ⟨rfl, by rw [ht]; exact hP, hS.F ht⟩) hS.2.2 hdg hR.2.2
theorem x_aret (C : Ctx E own cc rm nL g) {w' : Wd} {v : Value} {cn : String} (hR : Rets E g (some (.object cn)) (some v) w') (hv : v = .null ∨ ∃ a, v = .ref a) (hw : w = w') (hdg : decode cc pc = .ok (.areturn, 1)) : Xx E nL g (pc) (L) ([v]) w := by
  subst hw
  intro H locs ls hP hS hl
  rw [hR.1]
  exact W.aret C.1 C.2.1 hR.2.1 (Or.inl ⟨cn, rfl⟩) hv (fun t ht _ => ⟨rfl, by rw [ht]; exact hP, hS.F ht⟩) hS.2.2 hdg hR.2.2
theorem Qm_go {E : Ex} {nL : Nat} {g : Gx} {pc : Nat} {L : List (Nat × Value)} {st st0 : List Value} {w' : Wd} {o : Option Value} {aa : Array Value} {H : Heap} {locs : List Loc} {ls : Array Slot} (hr : va_Run E.p E.l E.e E.R E.s E.m E.args E.below E.meth E.c H locs E.cells E.slots 0 0 (F0 E.m pc ls st0) st (Qm g o w' aa) (fun q => g.2.1 ≤ q)) (hS : va_S (fun q => g.2.1 ≤ q) E.s.heap H locs) (hl : lv_has ls nL L) (kk : Xx E nL g (pc + 3) L (o.toList ++ st) w') : W E.p E.l E.e E.R E.s E.m E.args E.below E.meth E.c H locs E.cells E.slots E.Q (F0 E.m pc ls st0) := by
  intro T hT X
  obtain ⟨v, st₀, t, T', Lc, h0, X', hL, e1, e2, ⟨hv, hP, hz, hk⟩, go⟩ := hr T hT X
  cases hv
  rw [h0] at hz hk
  obtain ⟨t2, a1, b1⟩ := kk T'.heap (locs ++ Lc) ls (by rw [e1]; exact hP) ⟨Nat.le_trans hS.1 (by rw [e1]; exact hz), fun q h1 h2 => by rw [e1, hk q (Nat.lt_of_lt_of_le h1 hS.1) h2]; exact hS.2.1 q h1 h2, fun q hq => by
      rcases List.mem_append.mp hq with h | h
      · exact hS.2.2 q h
      · exact hL q h⟩ hl T' rfl X'
  exact ⟨t2, go t2 a1, b1⟩
theorem gd_GoodIn {y : MethodName} {bytes : ByteArray} {maxL : Nat} {ret : Option FieldType} (h : Cond.code y bytes maxL ret ∈ gd_tbl) : GoodIn gd_tbl (.code y bytes maxL ret :: gd_tbl) := by
  intro x hx
  rcases List.mem_cons.mp hx with rfl | hx
  · exact ⟨h, gd_good h⟩
  · exact ⟨hx, gd_good hx⟩
/-- what the tables say of a callee -/
def Cal (y : MethodName) (bytes : ByteArray) (maxL : Nat) (ret : Option FieldType) (n : Nat) : Prop := Cond.code y bytes maxL ret ∈ gd_tbl ∧ Cond.initialized y.cls ∈ gd_tbl ∧ (y.cls ≠ "java/lang/invoke/MethodHandle" ∧ y.cls ≠ "java/lang/invoke/VarHandle" ∧ (parseMethodDescriptor y.desc).map (fun d => d.parameters.length) = some n)
def CalV (y : MethodName) (bytes : ByteArray) (maxL : Nat) (ret : Option FieldType) (n : Nat) : Prop := Cal y bytes maxL ret n ∧ Cond.instanceMethod y ∈ gd_tbl ∧ Cond.selects y.cls y y ∈ gd_tbl
def CalS (y : MethodName) (bytes : ByteArray) (maxL : Nat) (ret : Option FieldType) (n : Nat) : Prop := Cal y bytes maxL ret n ∧ Cond.static y ∈ gd_tbl
theorem lv_rm {m : MethodId} {pc : Nat} {ls : Array Slot} {s0 st : List Value} (h : (st.map fun v => v.category).sum ≤ 8) : 2 * (F0 m pc ls s0).monitorRoom + (st.map fun v => v.category).sum ≤ 8 := lv_room h
theorem xx_recv (C : Ctx E own cc rm nL g) {H : Heap} (hP : va_P g.1 vwCl (wl g w) H) {k ci : Nat} {fs : List Value} {q : vw_C} (hk : k < 106) (he : enc g k (w.1 k) (w.2 k) = .inr (ci, fs)) (hc : vwCl[ci]? = some q) : ∃ cell : Cell, H[ad g k]? = some cell ∧ cell.vm.isStatics = false ∧ E.s.vm.findClass q.1 = some cell.cls := va_recv C.2.2.2.2.2.1.1 hP hc ((wl_at hk).trans (by rw [he]))
theorem enc_obj {g : Gx} {k ci : Nat} (hk : kindOf k = ci) (hci : ci < 7) (r : Nat → Int32) (t : Int64) : ∃ fs, enc g k r t = .inr (ci, fs) := by
  subst hk
  unfold enc
  generalize kindOf k = z at hci
  match z, hci with
  | 0, _ => exact ⟨_, rfl⟩
  | 1, _ => exact ⟨_, rfl⟩
  | 2, _ => exact ⟨_, rfl⟩
  | 3, _ => exact ⟨_, rfl⟩
  | 4, _ => exact ⟨_, rfl⟩
  | 5, _ => exact ⟨_, rfl⟩
  | 6, _ => exact ⟨_, rfl⟩
  | z + 7, h => omega
theorem x_callV (C : Ctx E own cc rm nL g) {y : MethodName} {bytes : ByteArray} {maxL n idx ci k : Nat} {ret : Option FieldType} {rm' : Room} {q : vw_C} {As st0 : List Value} {o : Option Value} {w' : Wd} (hM : MetM E.l y bytes maxL ret rm' g (.ref (ad g k) :: As) w o w') (hc : CalV y bytes maxL ret n) (hki : kindOf k = ci) (hci : ci < 7) (hcl : vwCl[ci]? = some q) (hsel : y.cls = q.1) (hlink : Cond.methodLink own idx y ∈ gd_tbl) (hrc : rm'.cells = 0) (hrs : rm'.slots = 0) (hR : rm'.frames + 1 ≤ rm.frames ∧ 8 + (maxL + 11) + rm'.locals ≤ rm.locals) (hn : As.length = n) (hst : st0 = As.reverse ++ .ref (ad g k) :: st) (hsum : (st.map fun v => v.category).sum ≤ 8) (hdg : decode cc pc = .ok (.invokevirtual idx, 3)) (kk : Xx E nL g (pc + 3) (L) (o.toList ++ st) w') : Xx E nL g (pc) (L) (st0) w := by
  intro H locs ls hP hS hl
  subst hst
  obtain ⟨fs, he⟩ := enc_obj (g := g) hki hci (w.1 k) (w.2 k)
  refine Qm_go (va_runV (C := q.1) (As := As) (rest := st) ⟨C.1, C.2.1, C.2.2.1, C.2.2.2.1, C.2.2.2.2.1⟩ hM ⟨callB_of n C.2.2.2.2.1 (gd_GoodIn hc.1.1) rfl hrc hrs (C.2.2.2.2.1 _ hc.1.2.1) (C.2.2.2.2.1 _ hlink) hc.1.2.2 (C.2.2.2.2.2.2.1 ▸ hR), C.2.2.2.2.1 _ hc.2.1, hsel ▸ C.2.2.2.2.1 _ hc.2.2⟩ ⟨Pm_blind _ _ _, xx_recv C hP (kind_lt hki (by omega)) he hcl, fun U hU hW => ⟨rfl, by rw [hU]; exact hP, C.2.2.2.2.2.1.warm hW⟩⟩ rfl hn hl.1 rfl (lv_rm hsum) hdg ⟨C.2.2.2.2.2.2.1 ▸ C.2.2.2.2.2.2.2.1, C.2.2.2.2.2.2.1 ▸ C.2.2.2.2.2.2.2.2⟩) hS hl kk
theorem x_callVN (C : Ctx E own cc rm nL g) {y : MethodName} {bytes : ByteArray} {maxL n idx ci k : Nat} {ret : Option FieldType} {rm' : Room} {q : vw_C} {As st0 : List Value} {o : Option Value} {w' : Wd} (hM : MetM E.l y bytes maxL ret rm' g (.ref (ad g k) :: As) w o w') (hc : CalV y bytes maxL ret n) (hki : kindOf k = ci) (hci : ci < 7) (hcl : vwCl[ci]? = some q) (hsel : y.cls = q.1) {host : String} (hlink : Cond.methodLinkNest own idx y host ∈ ns_tbl) (hrc : rm'.cells = 0) (hrs : rm'.slots = 0) (hR : rm'.frames + 1 ≤ rm.frames ∧ 8 + (maxL + 11) + rm'.locals ≤ rm.locals) (hn : As.length = n) (hst : st0 = As.reverse ++ .ref (ad g k) :: st) (hsum : (st.map fun v => v.category).sum ≤ 8) (hdg : decode cc pc = .ok (.invokevirtual idx, 3)) (kk : Xx E nL g (pc + 3) (L) (o.toList ++ st) w') : Xx E nL g (pc) (L) (st0) w := by
  intro H locs ls hP hS hl
  subst hst
  obtain ⟨fs, he⟩ := enc_obj (g := g) hki hci (w.1 k) (w.2 k)
  refine Qm_go (va_runVN (C := q.1) (As := As) (rest := st) ⟨C.1, C.2.1, C.2.2.1, C.2.2.2.1, C.2.2.2.2.1⟩ hM ⟨va_cnB n C.2.2.2.2.1 (gd_GoodIn hc.1.1) rfl hrc hrs (C.2.2.2.2.2.1.2 _ hlink) (C.2.2.2.2.1 _ hc.1.2.1) hc.1.2.2 (C.2.2.2.2.2.2.1 ▸ hR), C.2.2.2.2.1 _ hc.2.1, hsel ▸ C.2.2.2.2.1 _ hc.2.2⟩ ⟨Pm_blind _ _ _, xx_recv C hP (kind_lt hki (by omega)) he hcl, fun U hU hW => ⟨rfl, by rw [hU]; exact hP, C.2.2.2.2.2.1.warm hW⟩⟩ rfl hn hl.1 rfl (lv_rm hsum) hdg ⟨C.2.2.2.2.2.2.1 ▸ C.2.2.2.2.2.2.2.1, C.2.2.2.2.2.2.1 ▸ C.2.2.2.2.2.2.2.2⟩) hS hl kk
theorem x_callS (C : Ctx E own cc rm nL g) {y : MethodName} {bytes : ByteArray} {maxL n idx : Nat} {ret : Option FieldType} {rm' : Room} {As st0 : List Value} {o : Option Value} {w' : Wd} (hM : MetM E.l y bytes maxL ret rm' g As w o w') (hc : CalS y bytes maxL ret n) (hlink : Cond.methodLink own idx y ∈ gd_tbl) (hrc : rm'.cells = 0) (hrs : rm'.slots = 0) (hR : rm'.frames + 1 ≤ rm.frames ∧ 8 + (maxL + 11) + rm'.locals ≤ rm.locals) (hn : As.length = n) (hst : st0 = As.reverse ++ st) (hsum : (st.map fun v => v.category).sum ≤ 8) (hdg : decode cc pc = .ok (.invokestatic idx, 3)) (kk : Xx E nL g (pc + 3) (L) (o.toList ++ st) w') : Xx E nL g (pc) (L) (st0) w := by
  intro H locs ls hP hS hl
  subst hst
  refine Qm_go (va_runS (As := As) (rest := st) ⟨C.1, C.2.1, C.2.2.1, C.2.2.2.1, C.2.2.2.2.1⟩ hM ⟨callB_of n C.2.2.2.2.1 (gd_GoodIn hc.1.1) rfl hrc hrs (C.2.2.2.2.1 _ hc.1.2.1) (C.2.2.2.2.1 _ hlink) hc.1.2.2 (C.2.2.2.2.2.2.1 ▸ hR), C.2.2.2.2.1 _ hc.2⟩ ⟨Pm_blind _ _ _, fun U hU hW => ⟨rfl, by rw [hU]; exact hP, C.2.2.2.2.2.1.warm hW⟩⟩ rfl hn hl.1 rfl (lv_rm hsum) hdg ⟨C.2.2.2.2.2.2.1 ▸ C.2.2.2.2.2.2.2.1, C.2.2.2.2.2.2.1 ▸ C.2.2.2.2.2.2.2.2⟩) hS hl kk
theorem x_callSN (C : Ctx E own cc rm nL g) {y : MethodName} {bytes : ByteArray} {maxL n idx : Nat} {ret : Option FieldType} {rm' : Room} {As st0 : List Value} {o : Option Value} {w' : Wd} (hM : MetM E.l y bytes maxL ret rm' g As w o w') (hc : CalS y bytes maxL ret n) {host : String} (hlink : Cond.methodLinkNest own idx y host ∈ ns_tbl) (hrc : rm'.cells = 0) (hrs : rm'.slots = 0) (hR : rm'.frames + 1 ≤ rm.frames ∧ 8 + (maxL + 11) + rm'.locals ≤ rm.locals) (hn : As.length = n) (hst : st0 = As.reverse ++ st) (hsum : (st.map fun v => v.category).sum ≤ 8) (hdg : decode cc pc = .ok (.invokestatic idx, 3)) (kk : Xx E nL g (pc + 3) (L) (o.toList ++ st) w') : Xx E nL g (pc) (L) (st0) w := by
  intro H locs ls hP hS hl
  subst hst
  refine Qm_go (va_runSN (As := As) (rest := st) ⟨C.1, C.2.1, C.2.2.1, C.2.2.2.1, C.2.2.2.2.1⟩ hM ⟨va_cnB n C.2.2.2.2.1 (gd_GoodIn hc.1.1) rfl hrc hrs (C.2.2.2.2.2.1.2 _ hlink) (C.2.2.2.2.1 _ hc.1.2.1) hc.1.2.2 (C.2.2.2.2.2.2.1 ▸ hR), C.2.2.2.2.1 _ hc.2, trivial⟩ ⟨Pm_blind _ _ _, fun U hU hW => ⟨rfl, by rw [hU]; exact hP, C.2.2.2.2.2.1.warm hW⟩⟩ rfl hn hl.1 rfl (lv_rm hsum) hdg ⟨C.2.2.2.2.2.2.1 ▸ C.2.2.2.2.2.2.2.1, C.2.2.2.2.2.2.1 ▸ C.2.2.2.2.2.2.2.2⟩) hS hl kk
end XR
end
