section
-- ===== PART A: goes FIRST, ahead of the names: the tables' words, and 'selects' of the private methods out of them =====
/-- a private method of a class that the tables say can be made, by its rows of tables_1 -/
def lw_okq (q : MethodName × Nat) : Prop := (q.1.cls ≠ "java/lang/invoke/MethodHandle" ∧ q.1.cls ≠ "java/lang/invoke/VarHandle") ∧ Cond.instantiable q.1.cls q.2 ∈ tables_1 ∧ Cond.privateMethod q.1 ∈ tables_1 ∧ Cond.instanceMethod q.1 ∈ tables_1
theorem lw_p0 : lw_okq (⟨"EventLedger", "putBytes", "(I)V"⟩, 18) := ⟨⟨by decide +kernel, by decide +kernel⟩, List.mem_of_getElem? (i := 26) (by decide +kernel), List.mem_of_getElem? (i := 378) (by decide +kernel), List.mem_of_getElem? (i := 379) (by decide +kernel)⟩
theorem lw_p1 : lw_okq (⟨"EventLedger$Parser", "parse", "(ILEventLedger$Terms;LEventLedger$Log;)I"⟩, 8) := ⟨⟨by decide +kernel, by decide +kernel⟩, List.mem_of_getElem? (i := 34) (by decide +kernel), List.mem_of_getElem? (i := 386) (by decide +kernel), List.mem_of_getElem? (i := 387) (by decide +kernel)⟩
theorem lw_p2 : lw_okq (⟨"EventLedger$Terms", "clear", "()V"⟩, 13) := ⟨⟨by decide +kernel, by decide +kernel⟩, List.mem_of_getElem? (i := 107) (by decide +kernel), List.mem_of_getElem? (i := 390) (by decide +kernel), List.mem_of_getElem? (i := 391) (by decide +kernel)⟩
theorem lw_p3 : lw_okq (⟨"EventLedger$Log", "clear", "()V"⟩, 11) := ⟨⟨by decide +kernel, by decide +kernel⟩, List.mem_of_getElem? (i := 165) (by decide +kernel), List.mem_of_getElem? (i := 394) (by decide +kernel), List.mem_of_getElem? (i := 395) (by decide +kernel)⟩
theorem lw_p4 : lw_okq (⟨"EventLedger$Tokens", "begin", "(I)V"⟩, 8) := ⟨⟨by decide +kernel, by decide +kernel⟩, List.mem_of_getElem? (i := 40) (by decide +kernel), List.mem_of_getElem? (i := 398) (by decide +kernel), List.mem_of_getElem? (i := 399) (by decide +kernel)⟩
theorem lw_p5 : lw_okq (⟨"EventLedger$Tokens", "advance", "()V"⟩, 8) := ⟨⟨by decide +kernel, by decide +kernel⟩, List.mem_of_getElem? (i := 40) (by decide +kernel), List.mem_of_getElem? (i := 405) (by decide +kernel), List.mem_of_getElem? (i := 406) (by decide +kernel)⟩
theorem lw_p6 : lw_okq (⟨"EventLedger$Tokens", "readWord", "()V"⟩, 8) := ⟨⟨by decide +kernel, by decide +kernel⟩, List.mem_of_getElem? (i := 40) (by decide +kernel), List.mem_of_getElem? (i := 412) (by decide +kernel), List.mem_of_getElem? (i := 413) (by decide +kernel)⟩
theorem lw_p7 : lw_okq (⟨"EventLedger$Tokens", "readNumber", "()V"⟩, 8) := ⟨⟨by decide +kernel, by decide +kernel⟩, List.mem_of_getElem? (i := 40) (by decide +kernel), List.mem_of_getElem? (i := 421) (by decide +kernel), List.mem_of_getElem? (i := 422) (by decide +kernel)⟩
theorem lw_p8 : lw_okq (⟨"EventLedger$Parser", "stands", "(I)Z"⟩, 8) := ⟨⟨by decide +kernel, by decide +kernel⟩, List.mem_of_getElem? (i := 34) (by decide +kernel), List.mem_of_getElem? (i := 426) (by decide +kernel), List.mem_of_getElem? (i := 427) (by decide +kernel)⟩
theorem lw_p9 : lw_okq (⟨"EventLedger$Parser", "fail", "(II)V"⟩, 8) := ⟨⟨by decide +kernel, by decide +kernel⟩, List.mem_of_getElem? (i := 34) (by decide +kernel), List.mem_of_getElem? (i := 430) (by decide +kernel), List.mem_of_getElem? (i := 431) (by decide +kernel)⟩
theorem lw_p10 : lw_okq (⟨"EventLedger$Parser", "readLine", "(LEventLedger$Word;)V"⟩, 8) := ⟨⟨by decide +kernel, by decide +kernel⟩, List.mem_of_getElem? (i := 34) (by decide +kernel), List.mem_of_getElem? (i := 434) (by decide +kernel), List.mem_of_getElem? (i := 435) (by decide +kernel)⟩
theorem lw_p11 : lw_okq (⟨"EventLedger$Parser", "readAccount", "()V"⟩, 8) := ⟨⟨by decide +kernel, by decide +kernel⟩, List.mem_of_getElem? (i := 34) (by decide +kernel), List.mem_of_getElem? (i := 446) (by decide +kernel), List.mem_of_getElem? (i := 447) (by decide +kernel)⟩
theorem lw_p12 : lw_okq (⟨"EventLedger$Parser", "needRoom", "(II)V"⟩, 8) := ⟨⟨by decide +kernel, by decide +kernel⟩, List.mem_of_getElem? (i := 34) (by decide +kernel), List.mem_of_getElem? (i := 450) (by decide +kernel), List.mem_of_getElem? (i := 451) (by decide +kernel)⟩
theorem lw_p13 : lw_okq (⟨"EventLedger$Parser", "takeName", "()I"⟩, 8) := ⟨⟨by decide +kernel, by decide +kernel⟩, List.mem_of_getElem? (i := 34) (by decide +kernel), List.mem_of_getElem? (i := 455) (by decide +kernel), List.mem_of_getElem? (i := 456) (by decide +kernel)⟩
theorem lw_p14 : lw_okq (⟨"EventLedger$Terms", "accountNamed", "(I)I"⟩, 13) := ⟨⟨by decide +kernel, by decide +kernel⟩, List.mem_of_getElem? (i := 107) (by decide +kernel), List.mem_of_getElem? (i := 459) (by decide +kernel), List.mem_of_getElem? (i := 460) (by decide +kernel)⟩
theorem lw_p15 : lw_okq (⟨"EventLedger$Parser", "takeStop", "()V"⟩, 8) := ⟨⟨by decide +kernel, by decide +kernel⟩, List.mem_of_getElem? (i := 34) (by decide +kernel), List.mem_of_getElem? (i := 466) (by decide +kernel), List.mem_of_getElem? (i := 467) (by decide +kernel)⟩
def lw_privs_1 : List (MethodName × Nat) := [(⟨"EventLedger", "putBytes", "(I)V"⟩, 18), (⟨"EventLedger$Parser", "parse", "(ILEventLedger$Terms;LEventLedger$Log;)I"⟩, 8), (⟨"EventLedger$Terms", "clear", "()V"⟩, 13), (⟨"EventLedger$Log", "clear", "()V"⟩, 11), (⟨"EventLedger$Tokens", "begin", "(I)V"⟩, 8), (⟨"EventLedger$Tokens", "advance", "()V"⟩, 8), (⟨"EventLedger$Tokens", "readWord", "()V"⟩, 8), (⟨"EventLedger$Tokens", "readNumber", "()V"⟩, 8), (⟨"EventLedger$Parser", "stands", "(I)Z"⟩, 8), (⟨"EventLedger$Parser", "fail", "(II)V"⟩, 8), (⟨"EventLedger$Parser", "readLine", "(LEventLedger$Word;)V"⟩, 8), (⟨"EventLedger$Parser", "readAccount", "()V"⟩, 8), (⟨"EventLedger$Parser", "needRoom", "(II)V"⟩, 8), (⟨"EventLedger$Parser", "takeName", "()I"⟩, 8), (⟨"EventLedger$Terms", "accountNamed", "(I)I"⟩, 13), (⟨"EventLedger$Parser", "takeStop", "()V"⟩, 8)]
theorem lw_r1 : ∀ q ∈ lw_privs_1, lw_okq q := List.forall_mem_cons.mpr ⟨lw_p0, List.forall_mem_cons.mpr ⟨lw_p1, List.forall_mem_cons.mpr ⟨lw_p2, List.forall_mem_cons.mpr ⟨lw_p3, List.forall_mem_cons.mpr ⟨lw_p4, List.forall_mem_cons.mpr ⟨lw_p5, List.forall_mem_cons.mpr ⟨lw_p6, List.forall_mem_cons.mpr ⟨lw_p7, List.forall_mem_cons.mpr ⟨lw_p8, List.forall_mem_cons.mpr ⟨lw_p9, List.forall_mem_cons.mpr ⟨lw_p10, List.forall_mem_cons.mpr ⟨lw_p11, List.forall_mem_cons.mpr ⟨lw_p12, List.forall_mem_cons.mpr ⟨lw_p13, List.forall_mem_cons.mpr ⟨lw_p14, List.forall_mem_cons.mpr ⟨lw_p15, fun _ h => absurd h List.not_mem_nil⟩⟩⟩⟩⟩⟩⟩⟩⟩⟩⟩⟩⟩⟩⟩⟩
theorem lw_p16 : lw_okq (⟨"EventLedger$Terms", "addAccount", "(I)V"⟩, 13) := ⟨⟨by decide +kernel, by decide +kernel⟩, List.mem_of_getElem? (i := 107) (by decide +kernel), List.mem_of_getElem? (i := 470) (by decide +kernel), List.mem_of_getElem? (i := 471) (by decide +kernel)⟩
theorem lw_p17 : lw_okq (⟨"EventLedger$Parser", "readLift", "()V"⟩, 8) := ⟨⟨by decide +kernel, by decide +kernel⟩, List.mem_of_getElem? (i := 34) (by decide +kernel), List.mem_of_getElem? (i := 474) (by decide +kernel), List.mem_of_getElem? (i := 475) (by decide +kernel)⟩
theorem lw_p18 : lw_okq (⟨"EventLedger$Parser", "takeNamed", "(I)I"⟩, 8) := ⟨⟨by decide +kernel, by decide +kernel⟩, List.mem_of_getElem? (i := 34) (by decide +kernel), List.mem_of_getElem? (i := 478) (by decide +kernel), List.mem_of_getElem? (i := 479) (by decide +kernel)⟩
theorem lw_p19 : lw_okq (⟨"EventLedger$Parser", "takeNumber", "(II)I"⟩, 8) := ⟨⟨by decide +kernel, by decide +kernel⟩, List.mem_of_getElem? (i := 34) (by decide +kernel), List.mem_of_getElem? (i := 482) (by decide +kernel), List.mem_of_getElem? (i := 483) (by decide +kernel)⟩
theorem lw_p20 : lw_okq (⟨"EventLedger$Terms", "countSteps", "(II)I"⟩, 13) := ⟨⟨by decide +kernel, by decide +kernel⟩, List.mem_of_getElem? (i := 107) (by decide +kernel), List.mem_of_getElem? (i := 486) (by decide +kernel), List.mem_of_getElem? (i := 487) (by decide +kernel)⟩
theorem lw_p21 : lw_okq (⟨"EventLedger$Terms", "addStep", "(IIIII)V"⟩, 13) := ⟨⟨by decide +kernel, by decide +kernel⟩, List.mem_of_getElem? (i := 107) (by decide +kernel), List.mem_of_getElem? (i := 493) (by decide +kernel), List.mem_of_getElem? (i := 494) (by decide +kernel)⟩
theorem lw_p22 : lw_okq (⟨"EventLedger$Parser", "readTally", "()V"⟩, 8) := ⟨⟨by decide +kernel, by decide +kernel⟩, List.mem_of_getElem? (i := 34) (by decide +kernel), List.mem_of_getElem? (i := 497) (by decide +kernel), List.mem_of_getElem? (i := 498) (by decide +kernel)⟩
theorem lw_p23 : lw_okq (⟨"EventLedger$Terms", "tallyNamed", "(I)I"⟩, 13) := ⟨⟨by decide +kernel, by decide +kernel⟩, List.mem_of_getElem? (i := 107) (by decide +kernel), List.mem_of_getElem? (i := 501) (by decide +kernel), List.mem_of_getElem? (i := 502) (by decide +kernel)⟩
theorem lw_p24 : lw_okq (⟨"EventLedger$Terms", "addTally", "(III)V"⟩, 13) := ⟨⟨by decide +kernel, by decide +kernel⟩, List.mem_of_getElem? (i := 107) (by decide +kernel), List.mem_of_getElem? (i := 505) (by decide +kernel), List.mem_of_getElem? (i := 506) (by decide +kernel)⟩
theorem lw_p25 : lw_okq (⟨"EventLedger$Parser", "readSnap", "()V"⟩, 8) := ⟨⟨by decide +kernel, by decide +kernel⟩, List.mem_of_getElem? (i := 34) (by decide +kernel), List.mem_of_getElem? (i := 509) (by decide +kernel), List.mem_of_getElem? (i := 510) (by decide +kernel)⟩
theorem lw_p26 : lw_okq (⟨"EventLedger$Parser", "readSeed", "()V"⟩, 8) := ⟨⟨by decide +kernel, by decide +kernel⟩, List.mem_of_getElem? (i := 34) (by decide +kernel), List.mem_of_getElem? (i := 513) (by decide +kernel), List.mem_of_getElem? (i := 514) (by decide +kernel)⟩
theorem lw_p27 : lw_okq (⟨"EventLedger$Parser", "readVoid", "()V"⟩, 8) := ⟨⟨by decide +kernel, by decide +kernel⟩, List.mem_of_getElem? (i := 34) (by decide +kernel), List.mem_of_getElem? (i := 518) (by decide +kernel), List.mem_of_getElem? (i := 519) (by decide +kernel)⟩
theorem lw_p28 : lw_okq (⟨"EventLedger$Log", "holdsPlain", "(I)Z"⟩, 11) := ⟨⟨by decide +kernel, by decide +kernel⟩, List.mem_of_getElem? (i := 165) (by decide +kernel), List.mem_of_getElem? (i := 523) (by decide +kernel), List.mem_of_getElem? (i := 524) (by decide +kernel)⟩
theorem lw_p29 : lw_okq (⟨"EventLedger$Log", "holds", "(I)Z"⟩, 11) := ⟨⟨by decide +kernel, by decide +kernel⟩, List.mem_of_getElem? (i := 165) (by decide +kernel), List.mem_of_getElem? (i := 527) (by decide +kernel), List.mem_of_getElem? (i := 528) (by decide +kernel)⟩
theorem lw_p30 : lw_okq (⟨"EventLedger$Parser", "takeTime", "()I"⟩, 8) := ⟨⟨by decide +kernel, by decide +kernel⟩, List.mem_of_getElem? (i := 34) (by decide +kernel), List.mem_of_getElem? (i := 531) (by decide +kernel), List.mem_of_getElem? (i := 532) (by decide +kernel)⟩
theorem lw_p31 : lw_okq (⟨"EventLedger$Log", "latestTime", "()I"⟩, 11) := ⟨⟨by decide +kernel, by decide +kernel⟩, List.mem_of_getElem? (i := 165) (by decide +kernel), List.mem_of_getElem? (i := 535) (by decide +kernel), List.mem_of_getElem? (i := 536) (by decide +kernel)⟩
def lw_privs_2 : List (MethodName × Nat) := [(⟨"EventLedger$Terms", "addAccount", "(I)V"⟩, 13), (⟨"EventLedger$Parser", "readLift", "()V"⟩, 8), (⟨"EventLedger$Parser", "takeNamed", "(I)I"⟩, 8), (⟨"EventLedger$Parser", "takeNumber", "(II)I"⟩, 8), (⟨"EventLedger$Terms", "countSteps", "(II)I"⟩, 13), (⟨"EventLedger$Terms", "addStep", "(IIIII)V"⟩, 13), (⟨"EventLedger$Parser", "readTally", "()V"⟩, 8), (⟨"EventLedger$Terms", "tallyNamed", "(I)I"⟩, 13), (⟨"EventLedger$Terms", "addTally", "(III)V"⟩, 13), (⟨"EventLedger$Parser", "readSnap", "()V"⟩, 8), (⟨"EventLedger$Parser", "readSeed", "()V"⟩, 8), (⟨"EventLedger$Parser", "readVoid", "()V"⟩, 8), (⟨"EventLedger$Log", "holdsPlain", "(I)Z"⟩, 11), (⟨"EventLedger$Log", "holds", "(I)Z"⟩, 11), (⟨"EventLedger$Parser", "takeTime", "()I"⟩, 8), (⟨"EventLedger$Log", "latestTime", "()I"⟩, 11)]
theorem lw_r2 : ∀ q ∈ lw_privs_2, lw_okq q := List.forall_mem_cons.mpr ⟨lw_p16, List.forall_mem_cons.mpr ⟨lw_p17, List.forall_mem_cons.mpr ⟨lw_p18, List.forall_mem_cons.mpr ⟨lw_p19, List.forall_mem_cons.mpr ⟨lw_p20, List.forall_mem_cons.mpr ⟨lw_p21, List.forall_mem_cons.mpr ⟨lw_p22, List.forall_mem_cons.mpr ⟨lw_p23, List.forall_mem_cons.mpr ⟨lw_p24, List.forall_mem_cons.mpr ⟨lw_p25, List.forall_mem_cons.mpr ⟨lw_p26, List.forall_mem_cons.mpr ⟨lw_p27, List.forall_mem_cons.mpr ⟨lw_p28, List.forall_mem_cons.mpr ⟨lw_p29, List.forall_mem_cons.mpr ⟨lw_p30, List.forall_mem_cons.mpr ⟨lw_p31, fun _ h => absurd h List.not_mem_nil⟩⟩⟩⟩⟩⟩⟩⟩⟩⟩⟩⟩⟩⟩⟩⟩
theorem lw_p32 : lw_okq (⟨"EventLedger$Log", "addVoid", "(II)V"⟩, 11) := ⟨⟨by decide +kernel, by decide +kernel⟩, List.mem_of_getElem? (i := 165) (by decide +kernel), List.mem_of_getElem? (i := 542) (by decide +kernel), List.mem_of_getElem? (i := 543) (by decide +kernel)⟩
theorem lw_p33 : lw_okq (⟨"EventLedger$Parser", "readEvent", "(I)V"⟩, 8) := ⟨⟨by decide +kernel, by decide +kernel⟩, List.mem_of_getElem? (i := 34) (by decide +kernel), List.mem_of_getElem? (i := 546) (by decide +kernel), List.mem_of_getElem? (i := 547) (by decide +kernel)⟩
theorem lw_p34 : lw_okq (⟨"EventLedger$Parser", "takeAccount", "()I"⟩, 8) := ⟨⟨by decide +kernel, by decide +kernel⟩, List.mem_of_getElem? (i := 34) (by decide +kernel), List.mem_of_getElem? (i := 550) (by decide +kernel), List.mem_of_getElem? (i := 551) (by decide +kernel)⟩
theorem lw_p35 : lw_okq (⟨"EventLedger$Log", "add", "(IIIII[I)V"⟩, 11) := ⟨⟨by decide +kernel, by decide +kernel⟩, List.mem_of_getElem? (i := 165) (by decide +kernel), List.mem_of_getElem? (i := 554) (by decide +kernel), List.mem_of_getElem? (i := 555) (by decide +kernel)⟩
theorem lw_p36 : lw_okq (⟨"EventLedger", "takeOverSpares", "()V"⟩, 18) := ⟨⟨by decide +kernel, by decide +kernel⟩, List.mem_of_getElem? (i := 26) (by decide +kernel), List.mem_of_getElem? (i := 561) (by decide +kernel), List.mem_of_getElem? (i := 562) (by decide +kernel)⟩
theorem lw_p37 : lw_okq (⟨"EventLedger$Terms", "lift", "(LEventLedger$Log;III)V"⟩, 13) := ⟨⟨by decide +kernel, by decide +kernel⟩, List.mem_of_getElem? (i := 107) (by decide +kernel), List.mem_of_getElem? (i := 565) (by decide +kernel), List.mem_of_getElem? (i := 566) (by decide +kernel)⟩
theorem lw_p38 : lw_okq (⟨"EventLedger$Log", "unlift", "(I)V"⟩, 11) := ⟨⟨by decide +kernel, by decide +kernel⟩, List.mem_of_getElem? (i := 165) (by decide +kernel), List.mem_of_getElem? (i := 569) (by decide +kernel), List.mem_of_getElem? (i := 570) (by decide +kernel)⟩
theorem lw_p39 : lw_okq (⟨"EventLedger$Terms", "takeStep", "(LEventLedger$Log;II)V"⟩, 13) := ⟨⟨by decide +kernel, by decide +kernel⟩, List.mem_of_getElem? (i := 107) (by decide +kernel), List.mem_of_getElem? (i := 573) (by decide +kernel), List.mem_of_getElem? (i := 574) (by decide +kernel)⟩
theorem lw_p40 : lw_okq (⟨"EventLedger$Tallies", "clear", "()V"⟩, 2) := ⟨⟨by decide +kernel, by decide +kernel⟩, List.mem_of_getElem? (i := 282) (by decide +kernel), List.mem_of_getElem? (i := 578) (by decide +kernel), List.mem_of_getElem? (i := 579) (by decide +kernel)⟩
theorem lw_p41 : lw_okq (⟨"EventLedger$Tallies", "restart", "(I)V"⟩, 2) := ⟨⟨by decide +kernel, by decide +kernel⟩, List.mem_of_getElem? (i := 282) (by decide +kernel), List.mem_of_getElem? (i := 582) (by decide +kernel), List.mem_of_getElem? (i := 583) (by decide +kernel)⟩
theorem lw_p42 : lw_okq (⟨"EventLedger$Tallies", "takeOff", "(II)V"⟩, 2) := ⟨⟨by decide +kernel, by decide +kernel⟩, List.mem_of_getElem? (i := 282) (by decide +kernel), List.mem_of_getElem? (i := 586) (by decide +kernel), List.mem_of_getElem? (i := 587) (by decide +kernel)⟩
theorem lw_p43 : lw_okq (⟨"EventLedger", "rebuild", "()V"⟩, 18) := ⟨⟨by decide +kernel, by decide +kernel⟩, List.mem_of_getElem? (i := 26) (by decide +kernel), List.mem_of_getElem? (i := 590) (by decide +kernel), List.mem_of_getElem? (i := 591) (by decide +kernel)⟩
theorem lw_p44 : lw_okq (⟨"EventLedger$Shots", "retake", "(LEventLedger$Log;I)I"⟩, 4) := ⟨⟨by decide +kernel, by decide +kernel⟩, List.mem_of_getElem? (i := 259) (by decide +kernel), List.mem_of_getElem? (i := 594) (by decide +kernel), List.mem_of_getElem? (i := 595) (by decide +kernel)⟩
theorem lw_p45 : lw_okq (⟨"EventLedger$Shots", "letGoAbove", "(I)V"⟩, 4) := ⟨⟨by decide +kernel, by decide +kernel⟩, List.mem_of_getElem? (i := 259) (by decide +kernel), List.mem_of_getElem? (i := 598) (by decide +kernel), List.mem_of_getElem? (i := 599) (by decide +kernel)⟩
theorem lw_p46 : lw_okq (⟨"EventLedger$Shots", "latestUpTo", "(I)I"⟩, 4) := ⟨⟨by decide +kernel, by decide +kernel⟩, List.mem_of_getElem? (i := 259) (by decide +kernel), List.mem_of_getElem? (i := 602) (by decide +kernel), List.mem_of_getElem? (i := 603) (by decide +kernel)⟩
theorem lw_p47 : lw_okq (⟨"EventLedger$Log", "weights", "(II)I"⟩, 11) := ⟨⟨by decide +kernel, by decide +kernel⟩, List.mem_of_getElem? (i := 165) (by decide +kernel), List.mem_of_getElem? (i := 606) (by decide +kernel), List.mem_of_getElem? (i := 607) (by decide +kernel)⟩
def lw_privs_3 : List (MethodName × Nat) := [(⟨"EventLedger$Log", "addVoid", "(II)V"⟩, 11), (⟨"EventLedger$Parser", "readEvent", "(I)V"⟩, 8), (⟨"EventLedger$Parser", "takeAccount", "()I"⟩, 8), (⟨"EventLedger$Log", "add", "(IIIII[I)V"⟩, 11), (⟨"EventLedger", "takeOverSpares", "()V"⟩, 18), (⟨"EventLedger$Terms", "lift", "(LEventLedger$Log;III)V"⟩, 13), (⟨"EventLedger$Log", "unlift", "(I)V"⟩, 11), (⟨"EventLedger$Terms", "takeStep", "(LEventLedger$Log;II)V"⟩, 13), (⟨"EventLedger$Tallies", "clear", "()V"⟩, 2), (⟨"EventLedger$Tallies", "restart", "(I)V"⟩, 2), (⟨"EventLedger$Tallies", "takeOff", "(II)V"⟩, 2), (⟨"EventLedger", "rebuild", "()V"⟩, 18), (⟨"EventLedger$Shots", "retake", "(LEventLedger$Log;I)I"⟩, 4), (⟨"EventLedger$Shots", "letGoAbove", "(I)V"⟩, 4), (⟨"EventLedger$Shots", "latestUpTo", "(I)I"⟩, 4), (⟨"EventLedger$Log", "weights", "(II)I"⟩, 11)]
theorem lw_r3 : ∀ q ∈ lw_privs_3, lw_okq q := List.forall_mem_cons.mpr ⟨lw_p32, List.forall_mem_cons.mpr ⟨lw_p33, List.forall_mem_cons.mpr ⟨lw_p34, List.forall_mem_cons.mpr ⟨lw_p35, List.forall_mem_cons.mpr ⟨lw_p36, List.forall_mem_cons.mpr ⟨lw_p37, List.forall_mem_cons.mpr ⟨lw_p38, List.forall_mem_cons.mpr ⟨lw_p39, List.forall_mem_cons.mpr ⟨lw_p40, List.forall_mem_cons.mpr ⟨lw_p41, List.forall_mem_cons.mpr ⟨lw_p42, List.forall_mem_cons.mpr ⟨lw_p43, List.forall_mem_cons.mpr ⟨lw_p44, List.forall_mem_cons.mpr ⟨lw_p45, List.forall_mem_cons.mpr ⟨lw_p46, List.forall_mem_cons.mpr ⟨lw_p47, fun _ h => absurd h List.not_mem_nil⟩⟩⟩⟩⟩⟩⟩⟩⟩⟩⟩⟩⟩⟩⟩⟩
theorem lw_p48 : lw_okq (⟨"EventLedger$Shots", "leastWorth", "(LEventLedger$Log;)I"⟩, 4) := ⟨⟨by decide +kernel, by decide +kernel⟩, List.mem_of_getElem? (i := 259) (by decide +kernel), List.mem_of_getElem? (i := 610) (by decide +kernel), List.mem_of_getElem? (i := 611) (by decide +kernel)⟩
theorem lw_p49 : lw_okq (⟨"EventLedger$Shots", "letGo", "(I)V"⟩, 4) := ⟨⟨by decide +kernel, by decide +kernel⟩, List.mem_of_getElem? (i := 259) (by decide +kernel), List.mem_of_getElem? (i := 615) (by decide +kernel), List.mem_of_getElem? (i := 616) (by decide +kernel)⟩
theorem lw_p50 : lw_okq (⟨"EventLedger$State", "replay", "(LEventLedger$Log;III)V"⟩, 7) := ⟨⟨by decide +kernel, by decide +kernel⟩, List.mem_of_getElem? (i := 229) (by decide +kernel), List.mem_of_getElem? (i := 619) (by decide +kernel), List.mem_of_getElem? (i := 620) (by decide +kernel)⟩
theorem lw_p51 : lw_okq (⟨"EventLedger$State", "begin", "(II)V"⟩, 7) := ⟨⟨by decide +kernel, by decide +kernel⟩, List.mem_of_getElem? (i := 229) (by decide +kernel), List.mem_of_getElem? (i := 623) (by decide +kernel), List.mem_of_getElem? (i := 624) (by decide +kernel)⟩
theorem lw_p52 : lw_okq (⟨"EventLedger$State", "step", "(LEventLedger$Log;I)V"⟩, 7) := ⟨⟨by decide +kernel, by decide +kernel⟩, List.mem_of_getElem? (i := 229) (by decide +kernel), List.mem_of_getElem? (i := 627) (by decide +kernel), List.mem_of_getElem? (i := 628) (by decide +kernel)⟩
theorem lw_p53 : lw_okq (⟨"EventLedger$State", "passesOver", "(LEventLedger$Log;I)Z"⟩, 7) := ⟨⟨by decide +kernel, by decide +kernel⟩, List.mem_of_getElem? (i := 229) (by decide +kernel), List.mem_of_getElem? (i := 631) (by decide +kernel), List.mem_of_getElem? (i := 632) (by decide +kernel)⟩
theorem lw_p54 : lw_okq (⟨"EventLedger$State", "causeOf", "(LEventLedger$Log;I)I"⟩, 7) := ⟨⟨by decide +kernel, by decide +kernel⟩, List.mem_of_getElem? (i := 229) (by decide +kernel), List.mem_of_getElem? (i := 635) (by decide +kernel), List.mem_of_getElem? (i := 636) (by decide +kernel)⟩
theorem lw_p55 : lw_okq (⟨"EventLedger$State", "isTooLittle", "(IIII)Z"⟩, 7) := ⟨⟨by decide +kernel, by decide +kernel⟩, List.mem_of_getElem? (i := 229) (by decide +kernel), List.mem_of_getElem? (i := 639) (by decide +kernel), List.mem_of_getElem? (i := 640) (by decide +kernel)⟩
theorem lw_p56 : lw_okq (⟨"EventLedger$State", "change", "(LEventLedger$Log;I)V"⟩, 7) := ⟨⟨by decide +kernel, by decide +kernel⟩, List.mem_of_getElem? (i := 229) (by decide +kernel), List.mem_of_getElem? (i := 643) (by decide +kernel), List.mem_of_getElem? (i := 644) (by decide +kernel)⟩
theorem lw_p57 : lw_okq (⟨"EventLedger", "canBe", "(III)Z"⟩, 18) := ⟨⟨by decide +kernel, by decide +kernel⟩, List.mem_of_getElem? (i := 26) (by decide +kernel), List.mem_of_getElem? (i := 661) (by decide +kernel), List.mem_of_getElem? (i := 662) (by decide +kernel)⟩
theorem lw_p58 : lw_okq (⟨"EventLedger", "isAccount", "(I)Z"⟩, 18) := ⟨⟨by decide +kernel, by decide +kernel⟩, List.mem_of_getElem? (i := 26) (by decide +kernel), List.mem_of_getElem? (i := 665) (by decide +kernel), List.mem_of_getElem? (i := 666) (by decide +kernel)⟩
theorem lw_p59 : lw_okq (⟨"EventLedger", "fillRow", "(II)V"⟩, 18) := ⟨⟨by decide +kernel, by decide +kernel⟩, List.mem_of_getElem? (i := 26) (by decide +kernel), List.mem_of_getElem? (i := 676) (by decide +kernel), List.mem_of_getElem? (i := 677) (by decide +kernel)⟩
theorem lw_p60 : lw_okq (⟨"EventLedger", "comes", "(IIIII)I"⟩, 18) := ⟨⟨by decide +kernel, by decide +kernel⟩, List.mem_of_getElem? (i := 26) (by decide +kernel), List.mem_of_getElem? (i := 680) (by decide +kernel), List.mem_of_getElem? (i := 681) (by decide +kernel)⟩
theorem lw_p61 : lw_okq (⟨"EventLedger", "refusalAt", "(I)I"⟩, 18) := ⟨⟨by decide +kernel, by decide +kernel⟩, List.mem_of_getElem? (i := 26) (by decide +kernel), List.mem_of_getElem? (i := 684) (by decide +kernel), List.mem_of_getElem? (i := 685) (by decide +kernel)⟩
theorem lw_p62 : lw_okq (⟨"EventLedger", "mark", "()V"⟩, 18) := ⟨⟨by decide +kernel, by decide +kernel⟩, List.mem_of_getElem? (i := 26) (by decide +kernel), List.mem_of_getElem? (i := 689) (by decide +kernel), List.mem_of_getElem? (i := 690) (by decide +kernel)⟩
theorem lw_p63 : lw_okq (⟨"EventLedger", "fillMark", "(LEventLedger$Mark;)V"⟩, 18) := ⟨⟨by decide +kernel, by decide +kernel⟩, List.mem_of_getElem? (i := 26) (by decide +kernel), List.mem_of_getElem? (i := 693) (by decide +kernel), List.mem_of_getElem? (i := 694) (by decide +kernel)⟩
def lw_privs_4 : List (MethodName × Nat) := [(⟨"EventLedger$Shots", "leastWorth", "(LEventLedger$Log;)I"⟩, 4), (⟨"EventLedger$Shots", "letGo", "(I)V"⟩, 4), (⟨"EventLedger$State", "replay", "(LEventLedger$Log;III)V"⟩, 7), (⟨"EventLedger$State", "begin", "(II)V"⟩, 7), (⟨"EventLedger$State", "step", "(LEventLedger$Log;I)V"⟩, 7), (⟨"EventLedger$State", "passesOver", "(LEventLedger$Log;I)Z"⟩, 7), (⟨"EventLedger$State", "causeOf", "(LEventLedger$Log;I)I"⟩, 7), (⟨"EventLedger$State", "isTooLittle", "(IIII)Z"⟩, 7), (⟨"EventLedger$State", "change", "(LEventLedger$Log;I)V"⟩, 7), (⟨"EventLedger", "canBe", "(III)Z"⟩, 18), (⟨"EventLedger", "isAccount", "(I)Z"⟩, 18), (⟨"EventLedger", "fillRow", "(II)V"⟩, 18), (⟨"EventLedger", "comes", "(IIIII)I"⟩, 18), (⟨"EventLedger", "refusalAt", "(I)I"⟩, 18), (⟨"EventLedger", "mark", "()V"⟩, 18), (⟨"EventLedger", "fillMark", "(LEventLedger$Mark;)V"⟩, 18)]
theorem lw_r4 : ∀ q ∈ lw_privs_4, lw_okq q := List.forall_mem_cons.mpr ⟨lw_p48, List.forall_mem_cons.mpr ⟨lw_p49, List.forall_mem_cons.mpr ⟨lw_p50, List.forall_mem_cons.mpr ⟨lw_p51, List.forall_mem_cons.mpr ⟨lw_p52, List.forall_mem_cons.mpr ⟨lw_p53, List.forall_mem_cons.mpr ⟨lw_p54, List.forall_mem_cons.mpr ⟨lw_p55, List.forall_mem_cons.mpr ⟨lw_p56, List.forall_mem_cons.mpr ⟨lw_p57, List.forall_mem_cons.mpr ⟨lw_p58, List.forall_mem_cons.mpr ⟨lw_p59, List.forall_mem_cons.mpr ⟨lw_p60, List.forall_mem_cons.mpr ⟨lw_p61, List.forall_mem_cons.mpr ⟨lw_p62, List.forall_mem_cons.mpr ⟨lw_p63, fun _ h => absurd h List.not_mem_nil⟩⟩⟩⟩⟩⟩⟩⟩⟩⟩⟩⟩⟩⟩⟩⟩
theorem lw_p64 : lw_okq (⟨"EventLedger$Tallies", "copyFrom", "(LEventLedger$Tallies;)V"⟩, 2) := ⟨⟨by decide +kernel, by decide +kernel⟩, List.mem_of_getElem? (i := 282) (by decide +kernel), List.mem_of_getElem? (i := 697) (by decide +kernel), List.mem_of_getElem? (i := 698) (by decide +kernel)⟩
theorem lw_p65 : lw_okq (⟨"EventLedger$State", "look", "(II)I"⟩, 7) := ⟨⟨by decide +kernel, by decide +kernel⟩, List.mem_of_getElem? (i := 229) (by decide +kernel), List.mem_of_getElem? (i := 721) (by decide +kernel), List.mem_of_getElem? (i := 722) (by decide +kernel)⟩
theorem lw_p66 : lw_okq (⟨"EventLedger$Log", "placeAt", "(I)I"⟩, 11) := ⟨⟨by decide +kernel, by decide +kernel⟩, List.mem_of_getElem? (i := 165) (by decide +kernel), List.mem_of_getElem? (i := 731) (by decide +kernel), List.mem_of_getElem? (i := 732) (by decide +kernel)⟩
theorem lw_p67 : lw_okq (⟨"EventLedger", "costOf", "(I)I"⟩, 18) := ⟨⟨by decide +kernel, by decide +kernel⟩, List.mem_of_getElem? (i := 26) (by decide +kernel), List.mem_of_getElem? (i := 743) (by decide +kernel), List.mem_of_getElem? (i := 744) (by decide +kernel)⟩
theorem lw_p68 : lw_okq (⟨"EventLedger$Shots", "nextBehind", "(II)I"⟩, 4) := ⟨⟨by decide +kernel, by decide +kernel⟩, List.mem_of_getElem? (i := 259) (by decide +kernel), List.mem_of_getElem? (i := 765) (by decide +kernel), List.mem_of_getElem? (i := 766) (by decide +kernel)⟩
theorem lw_p69 : lw_okq (⟨"EventLedger$Log", "copyFrom", "(LEventLedger$Log;)V"⟩, 11) := ⟨⟨by decide +kernel, by decide +kernel⟩, List.mem_of_getElem? (i := 165) (by decide +kernel), List.mem_of_getElem? (i := 800) (by decide +kernel), List.mem_of_getElem? (i := 801) (by decide +kernel)⟩
theorem lw_p70 : lw_okq (⟨"EventLedger$State", "countAside", "(II)I"⟩, 7) := ⟨⟨by decide +kernel, by decide +kernel⟩, List.mem_of_getElem? (i := 229) (by decide +kernel), List.mem_of_getElem? (i := 804) (by decide +kernel), List.mem_of_getElem? (i := 805) (by decide +kernel)⟩
theorem lw_p71 : lw_okq (⟨"EventLedger", "isTally", "(I)Z"⟩, 18) := ⟨⟨by decide +kernel, by decide +kernel⟩, List.mem_of_getElem? (i := 26) (by decide +kernel), List.mem_of_getElem? (i := 816) (by decide +kernel), List.mem_of_getElem? (i := 817) (by decide +kernel)⟩
theorem lw_p72 : lw_okq (⟨"EventLedger", "seeNext", "(I)V"⟩, 18) := ⟨⟨by decide +kernel, by decide +kernel⟩, List.mem_of_getElem? (i := 26) (by decide +kernel), List.mem_of_getElem? (i := 821) (by decide +kernel), List.mem_of_getElem? (i := 822) (by decide +kernel)⟩
theorem lw_p73 : lw_okq (⟨"EventLedger", "countsNow", "(II)Z"⟩, 18) := ⟨⟨by decide +kernel, by decide +kernel⟩, List.mem_of_getElem? (i := 26) (by decide +kernel), List.mem_of_getElem? (i := 826) (by decide +kernel), List.mem_of_getElem? (i := 827) (by decide +kernel)⟩
theorem lw_p74 : lw_okq (⟨"EventLedger$Tallies", "putOn", "(II)V"⟩, 2) := ⟨⟨by decide +kernel, by decide +kernel⟩, List.mem_of_getElem? (i := 282) (by decide +kernel), List.mem_of_getElem? (i := 830) (by decide +kernel), List.mem_of_getElem? (i := 831) (by decide +kernel)⟩
theorem lw_p75 : lw_okq (⟨"EventLedger$Tallies", "countCounted", "(I)I"⟩, 2) := ⟨⟨by decide +kernel, by decide +kernel⟩, List.mem_of_getElem? (i := 282) (by decide +kernel), List.mem_of_getElem? (i := 843) (by decide +kernel), List.mem_of_getElem? (i := 844) (by decide +kernel)⟩
theorem lw_p76 : lw_okq (⟨"EventLedger", "sumCounted", "(II)I"⟩, 18) := ⟨⟨by decide +kernel, by decide +kernel⟩, List.mem_of_getElem? (i := 26) (by decide +kernel), List.mem_of_getElem? (i := 847) (by decide +kernel), List.mem_of_getElem? (i := 848) (by decide +kernel)⟩
theorem lw_p77 : lw_okq (⟨"EventLedger$Tallies", "isCounted", "(II)Z"⟩, 2) := ⟨⟨by decide +kernel, by decide +kernel⟩, List.mem_of_getElem? (i := 282) (by decide +kernel), List.mem_of_getElem? (i := 851) (by decide +kernel), List.mem_of_getElem? (i := 852) (by decide +kernel)⟩
theorem lw_p78 : lw_okq (⟨"EventLedger", "countedField", "(II)I"⟩, 18) := ⟨⟨by decide +kernel, by decide +kernel⟩, List.mem_of_getElem? (i := 26) (by decide +kernel), List.mem_of_getElem? (i := 855) (by decide +kernel), List.mem_of_getElem? (i := 856) (by decide +kernel)⟩
theorem lw_p79 : lw_okq (⟨"EventLedger", "sumAnew", "(I)I"⟩, 18) := ⟨⟨by decide +kernel, by decide +kernel⟩, List.mem_of_getElem? (i := 26) (by decide +kernel), List.mem_of_getElem? (i := 859) (by decide +kernel), List.mem_of_getElem? (i := 860) (by decide +kernel)⟩
def lw_privs_5 : List (MethodName × Nat) := [(⟨"EventLedger$Tallies", "copyFrom", "(LEventLedger$Tallies;)V"⟩, 2), (⟨"EventLedger$State", "look", "(II)I"⟩, 7), (⟨"EventLedger$Log", "placeAt", "(I)I"⟩, 11), (⟨"EventLedger", "costOf", "(I)I"⟩, 18), (⟨"EventLedger$Shots", "nextBehind", "(II)I"⟩, 4), (⟨"EventLedger$Log", "copyFrom", "(LEventLedger$Log;)V"⟩, 11), (⟨"EventLedger$State", "countAside", "(II)I"⟩, 7), (⟨"EventLedger", "isTally", "(I)Z"⟩, 18), (⟨"EventLedger", "seeNext", "(I)V"⟩, 18), (⟨"EventLedger", "countsNow", "(II)Z"⟩, 18), (⟨"EventLedger$Tallies", "putOn", "(II)V"⟩, 2), (⟨"EventLedger$Tallies", "countCounted", "(I)I"⟩, 2), (⟨"EventLedger", "sumCounted", "(II)I"⟩, 18), (⟨"EventLedger$Tallies", "isCounted", "(II)Z"⟩, 2), (⟨"EventLedger", "countedField", "(II)I"⟩, 18), (⟨"EventLedger", "sumAnew", "(I)I"⟩, 18)]
theorem lw_r5 : ∀ q ∈ lw_privs_5, lw_okq q := List.forall_mem_cons.mpr ⟨lw_p64, List.forall_mem_cons.mpr ⟨lw_p65, List.forall_mem_cons.mpr ⟨lw_p66, List.forall_mem_cons.mpr ⟨lw_p67, List.forall_mem_cons.mpr ⟨lw_p68, List.forall_mem_cons.mpr ⟨lw_p69, List.forall_mem_cons.mpr ⟨lw_p70, List.forall_mem_cons.mpr ⟨lw_p71, List.forall_mem_cons.mpr ⟨lw_p72, List.forall_mem_cons.mpr ⟨lw_p73, List.forall_mem_cons.mpr ⟨lw_p74, List.forall_mem_cons.mpr ⟨lw_p75, List.forall_mem_cons.mpr ⟨lw_p76, List.forall_mem_cons.mpr ⟨lw_p77, List.forall_mem_cons.mpr ⟨lw_p78, List.forall_mem_cons.mpr ⟨lw_p79, fun _ h => absurd h List.not_mem_nil⟩⟩⟩⟩⟩⟩⟩⟩⟩⟩⟩⟩⟩⟩⟩⟩
theorem lw_p80 : lw_okq (⟨"EventLedger", "addByChance", "(II)V"⟩, 18) := ⟨⟨by decide +kernel, by decide +kernel⟩, List.mem_of_getElem? (i := 26) (by decide +kernel), List.mem_of_getElem? (i := 871) (by decide +kernel), List.mem_of_getElem? (i := 872) (by decide +kernel)⟩
theorem lw_p81 : lw_okq (⟨"EventLedger$State", "sumBalances", "()I"⟩, 7) := ⟨⟨by decide +kernel, by decide +kernel⟩, List.mem_of_getElem? (i := 229) (by decide +kernel), List.mem_of_getElem? (i := 884) (by decide +kernel), List.mem_of_getElem? (i := 885) (by decide +kernel)⟩
theorem lw_p82 : lw_okq (⟨"EventLedger$Log", "cutTo", "(I)V"⟩, 11) := ⟨⟨by decide +kernel, by decide +kernel⟩, List.mem_of_getElem? (i := 165) (by decide +kernel), List.mem_of_getElem? (i := 892) (by decide +kernel), List.mem_of_getElem? (i := 893) (by decide +kernel)⟩
theorem lw_p83 : lw_okq (⟨"EventLedger", "restore", "(LEventLedger$Mark;)V"⟩, 18) := ⟨⟨by decide +kernel, by decide +kernel⟩, List.mem_of_getElem? (i := 26) (by decide +kernel), List.mem_of_getElem? (i := 896) (by decide +kernel), List.mem_of_getElem? (i := 897) (by decide +kernel)⟩
theorem lw_p84 : lw_okq (⟨"EventLedger$Log", "countVoided", "()I"⟩, 11) := ⟨⟨by decide +kernel, by decide +kernel⟩, List.mem_of_getElem? (i := 165) (by decide +kernel), List.mem_of_getElem? (i := 912) (by decide +kernel), List.mem_of_getElem? (i := 913) (by decide +kernel)⟩
theorem lw_p85 : lw_okq (⟨"EventLedger$State", "countOpen", "()I"⟩, 7) := ⟨⟨by decide +kernel, by decide +kernel⟩, List.mem_of_getElem? (i := 229) (by decide +kernel), List.mem_of_getElem? (i := 916) (by decide +kernel), List.mem_of_getElem? (i := 917) (by decide +kernel)⟩
theorem lw_p86 : lw_okq (⟨"java/lang/Throwable", "fillInStackTrace", "(I)Ljava/lang/Throwable;"⟩, 6) := ⟨⟨by decide +kernel, by decide +kernel⟩, List.mem_of_getElem? (i := 966) (by decide +kernel), List.mem_of_getElem? (i := 964) (by decide +kernel), List.mem_of_getElem? (i := 965) (by decide +kernel)⟩
theorem lw_p87 : lw_okq (⟨"EventLedgerModel", "freshText", "()V"⟩, 46) := ⟨⟨by decide +kernel, by decide +kernel⟩, List.mem_of_getElem? (i := 1011) (by decide +kernel), List.mem_of_getElem? (i := 1017) (by decide +kernel), List.mem_of_getElem? (i := 1018) (by decide +kernel)⟩
theorem lw_p88 : lw_okq (⟨"EventLedgerModel", "reads", "(II)V"⟩, 46) := ⟨⟨by decide +kernel, by decide +kernel⟩, List.mem_of_getElem? (i := 1011) (by decide +kernel), List.mem_of_getElem? (i := 1021) (by decide +kernel), List.mem_of_getElem? (i := 1022) (by decide +kernel)⟩
theorem lw_p89 : lw_okq (⟨"EventLedgerModel", "takeText", "()V"⟩, 46) := ⟨⟨by decide +kernel, by decide +kernel⟩, List.mem_of_getElem? (i := 1011) (by decide +kernel), List.mem_of_getElem? (i := 1025) (by decide +kernel), List.mem_of_getElem? (i := 1026) (by decide +kernel)⟩
theorem lw_p90 : lw_okq (⟨"EventLedgerModel", "reading", "(I)I"⟩, 46) := ⟨⟨by decide +kernel, by decide +kernel⟩, List.mem_of_getElem? (i := 1011) (by decide +kernel), List.mem_of_getElem? (i := 1029) (by decide +kernel), List.mem_of_getElem? (i := 1030) (by decide +kernel)⟩
theorem lw_p91 : lw_okq (⟨"EventLedgerModel", "begins", "()V"⟩, 46) := ⟨⟨by decide +kernel, by decide +kernel⟩, List.mem_of_getElem? (i := 1011) (by decide +kernel), List.mem_of_getElem? (i := 1033) (by decide +kernel), List.mem_of_getElem? (i := 1034) (by decide +kernel)⟩
theorem lw_p92 : lw_okq (⟨"EventLedgerModel", "comes", "(IIIII)V"⟩, 46) := ⟨⟨by decide +kernel, by decide +kernel⟩, List.mem_of_getElem? (i := 1011) (by decide +kernel), List.mem_of_getElem? (i := 1037) (by decide +kernel), List.mem_of_getElem? (i := 1038) (by decide +kernel)⟩
theorem lw_p93 : lw_okq (⟨"EventLedgerModel", "many", "()I"⟩, 46) := ⟨⟨by decide +kernel, by decide +kernel⟩, List.mem_of_getElem? (i := 1011) (by decide +kernel), List.mem_of_getElem? (i := 1041) (by decide +kernel), List.mem_of_getElem? (i := 1042) (by decide +kernel)⟩
theorem lw_p94 : lw_okq (⟨"EventLedgerModel", "letsGo", "(I)V"⟩, 46) := ⟨⟨by decide +kernel, by decide +kernel⟩, List.mem_of_getElem? (i := 1011) (by decide +kernel), List.mem_of_getElem? (i := 1045) (by decide +kernel), List.mem_of_getElem? (i := 1046) (by decide +kernel)⟩
theorem lw_p95 : lw_okq (⟨"EventLedgerModel", "snapAt", "(I)I"⟩, 46) := ⟨⟨by decide +kernel, by decide +kernel⟩, List.mem_of_getElem? (i := 1011) (by decide +kernel), List.mem_of_getElem? (i := 1049) (by decide +kernel), List.mem_of_getElem? (i := 1050) (by decide +kernel)⟩
def lw_privs_6 : List (MethodName × Nat) := [(⟨"EventLedger", "addByChance", "(II)V"⟩, 18), (⟨"EventLedger$State", "sumBalances", "()I"⟩, 7), (⟨"EventLedger$Log", "cutTo", "(I)V"⟩, 11), (⟨"EventLedger", "restore", "(LEventLedger$Mark;)V"⟩, 18), (⟨"EventLedger$Log", "countVoided", "()I"⟩, 11), (⟨"EventLedger$State", "countOpen", "()I"⟩, 7), (⟨"java/lang/Throwable", "fillInStackTrace", "(I)Ljava/lang/Throwable;"⟩, 6), (⟨"EventLedgerModel", "freshText", "()V"⟩, 46), (⟨"EventLedgerModel", "reads", "(II)V"⟩, 46), (⟨"EventLedgerModel", "takeText", "()V"⟩, 46), (⟨"EventLedgerModel", "reading", "(I)I"⟩, 46), (⟨"EventLedgerModel", "begins", "()V"⟩, 46), (⟨"EventLedgerModel", "comes", "(IIIII)V"⟩, 46), (⟨"EventLedgerModel", "many", "()I"⟩, 46), (⟨"EventLedgerModel", "letsGo", "(I)V"⟩, 46), (⟨"EventLedgerModel", "snapAt", "(I)I"⟩, 46)]
theorem lw_r6 : ∀ q ∈ lw_privs_6, lw_okq q := List.forall_mem_cons.mpr ⟨lw_p80, List.forall_mem_cons.mpr ⟨lw_p81, List.forall_mem_cons.mpr ⟨lw_p82, List.forall_mem_cons.mpr ⟨lw_p83, List.forall_mem_cons.mpr ⟨lw_p84, List.forall_mem_cons.mpr ⟨lw_p85, List.forall_mem_cons.mpr ⟨lw_p86, List.forall_mem_cons.mpr ⟨lw_p87, List.forall_mem_cons.mpr ⟨lw_p88, List.forall_mem_cons.mpr ⟨lw_p89, List.forall_mem_cons.mpr ⟨lw_p90, List.forall_mem_cons.mpr ⟨lw_p91, List.forall_mem_cons.mpr ⟨lw_p92, List.forall_mem_cons.mpr ⟨lw_p93, List.forall_mem_cons.mpr ⟨lw_p94, List.forall_mem_cons.mpr ⟨lw_p95, fun _ h => absurd h List.not_mem_nil⟩⟩⟩⟩⟩⟩⟩⟩⟩⟩⟩⟩⟩⟩⟩⟩
theorem lw_p96 : lw_okq (⟨"EventLedgerModel", "snaps", "(I)V"⟩, 46) := ⟨⟨by decide +kernel, by decide +kernel⟩, List.mem_of_getElem? (i := 1011) (by decide +kernel), List.mem_of_getElem? (i := 1053) (by decide +kernel), List.mem_of_getElem? (i := 1054) (by decide +kernel)⟩
theorem lw_p97 : lw_okq (⟨"EventLedgerModel", "weights", "(II)I"⟩, 46) := ⟨⟨by decide +kernel, by decide +kernel⟩, List.mem_of_getElem? (i := 1011) (by decide +kernel), List.mem_of_getElem? (i := 1057) (by decide +kernel), List.mem_of_getElem? (i := 1058) (by decide +kernel)⟩
theorem lw_p98 : lw_okq (⟨"EventLedgerModel", "weightOf", "(I)I"⟩, 46) := ⟨⟨by decide +kernel, by decide +kernel⟩, List.mem_of_getElem? (i := 1011) (by decide +kernel), List.mem_of_getElem? (i := 1061) (by decide +kernel), List.mem_of_getElem? (i := 1062) (by decide +kernel)⟩
theorem lw_p99 : lw_okq (⟨"EventLedgerModel", "isVoid", "(I)Z"⟩, 46) := ⟨⟨by decide +kernel, by decide +kernel⟩, List.mem_of_getElem? (i := 1011) (by decide +kernel), List.mem_of_getElem? (i := 1065) (by decide +kernel), List.mem_of_getElem? (i := 1066) (by decide +kernel)⟩
theorem lw_p100 : lw_okq (⟨"EventLedgerModel", "snapGoes", "(I)V"⟩, 46) := ⟨⟨by decide +kernel, by decide +kernel⟩, List.mem_of_getElem? (i := 1011) (by decide +kernel), List.mem_of_getElem? (i := 1069) (by decide +kernel), List.mem_of_getElem? (i := 1070) (by decide +kernel)⟩
theorem lw_p101 : lw_okq (⟨"EventLedgerModel", "readText", "(I)V"⟩, 46) := ⟨⟨by decide +kernel, by decide +kernel⟩, List.mem_of_getElem? (i := 1011) (by decide +kernel), List.mem_of_getElem? (i := 1225) (by decide +kernel), List.mem_of_getElem? (i := 1226) (by decide +kernel)⟩
theorem lw_p102 : lw_okq (⟨"EventLedgerModel", "token", "()V"⟩, 46) := ⟨⟨by decide +kernel, by decide +kernel⟩, List.mem_of_getElem? (i := 1011) (by decide +kernel), List.mem_of_getElem? (i := 1229) (by decide +kernel), List.mem_of_getElem? (i := 1230) (by decide +kernel)⟩
theorem lw_p103 : lw_okq (⟨"EventLedgerModel", "here", "()I"⟩, 46) := ⟨⟨by decide +kernel, by decide +kernel⟩, List.mem_of_getElem? (i := 1011) (by decide +kernel), List.mem_of_getElem? (i := 1233) (by decide +kernel), List.mem_of_getElem? (i := 1234) (by decide +kernel)⟩
theorem lw_p104 : lw_okq (⟨"EventLedgerModel", "wordHere", "()I"⟩, 46) := ⟨⟨by decide +kernel, by decide +kernel⟩, List.mem_of_getElem? (i := 1011) (by decide +kernel), List.mem_of_getElem? (i := 1240) (by decide +kernel), List.mem_of_getElem? (i := 1241) (by decide +kernel)⟩
theorem lw_p105 : lw_okq (⟨"EventLedgerModel", "nameHere", "()V"⟩, 46) := ⟨⟨by decide +kernel, by decide +kernel⟩, List.mem_of_getElem? (i := 1011) (by decide +kernel), List.mem_of_getElem? (i := 1293) (by decide +kernel), List.mem_of_getElem? (i := 1294) (by decide +kernel)⟩
theorem lw_p106 : lw_okq (⟨"EventLedgerModel", "readLine", "()V"⟩, 46) := ⟨⟨by decide +kernel, by decide +kernel⟩, List.mem_of_getElem? (i := 1011) (by decide +kernel), List.mem_of_getElem? (i := 1301) (by decide +kernel), List.mem_of_getElem? (i := 1302) (by decide +kernel)⟩
theorem lw_p107 : lw_okq (⟨"EventLedgerModel", "wrong", "(I)V"⟩, 46) := ⟨⟨by decide +kernel, by decide +kernel⟩, List.mem_of_getElem? (i := 1011) (by decide +kernel), List.mem_of_getElem? (i := 1305) (by decide +kernel), List.mem_of_getElem? (i := 1306) (by decide +kernel)⟩
theorem lw_p108 : lw_okq (⟨"EventLedgerModel", "readEvent", "(I)V"⟩, 46) := ⟨⟨by decide +kernel, by decide +kernel⟩, List.mem_of_getElem? (i := 1011) (by decide +kernel), List.mem_of_getElem? (i := 1309) (by decide +kernel), List.mem_of_getElem? (i := 1310) (by decide +kernel)⟩
theorem lw_p109 : lw_okq (⟨"EventLedgerModel", "goOn", "()V"⟩, 46) := ⟨⟨by decide +kernel, by decide +kernel⟩, List.mem_of_getElem? (i := 1011) (by decide +kernel), List.mem_of_getElem? (i := 1313) (by decide +kernel), List.mem_of_getElem? (i := 1314) (by decide +kernel)⟩
theorem lw_p110 : lw_okq (⟨"EventLedgerModel", "accountHere", "()I"⟩, 46) := ⟨⟨by decide +kernel, by decide +kernel⟩, List.mem_of_getElem? (i := 1011) (by decide +kernel), List.mem_of_getElem? (i := 1317) (by decide +kernel), List.mem_of_getElem? (i := 1318) (by decide +kernel)⟩
theorem lw_p111 : lw_okq (⟨"EventLedgerModel", "timeAhead", "()I"⟩, 46) := ⟨⟨by decide +kernel, by decide +kernel⟩, List.mem_of_getElem? (i := 1011) (by decide +kernel), List.mem_of_getElem? (i := 1324) (by decide +kernel), List.mem_of_getElem? (i := 1325) (by decide +kernel)⟩
def lw_privs_7 : List (MethodName × Nat) := [(⟨"EventLedgerModel", "snaps", "(I)V"⟩, 46), (⟨"EventLedgerModel", "weights", "(II)I"⟩, 46), (⟨"EventLedgerModel", "weightOf", "(I)I"⟩, 46), (⟨"EventLedgerModel", "isVoid", "(I)Z"⟩, 46), (⟨"EventLedgerModel", "snapGoes", "(I)V"⟩, 46), (⟨"EventLedgerModel", "readText", "(I)V"⟩, 46), (⟨"EventLedgerModel", "token", "()V"⟩, 46), (⟨"EventLedgerModel", "here", "()I"⟩, 46), (⟨"EventLedgerModel", "wordHere", "()I"⟩, 46), (⟨"EventLedgerModel", "nameHere", "()V"⟩, 46), (⟨"EventLedgerModel", "readLine", "()V"⟩, 46), (⟨"EventLedgerModel", "wrong", "(I)V"⟩, 46), (⟨"EventLedgerModel", "readEvent", "(I)V"⟩, 46), (⟨"EventLedgerModel", "goOn", "()V"⟩, 46), (⟨"EventLedgerModel", "accountHere", "()I"⟩, 46), (⟨"EventLedgerModel", "timeAhead", "()I"⟩, 46)]
theorem lw_r7 : ∀ q ∈ lw_privs_7, lw_okq q := List.forall_mem_cons.mpr ⟨lw_p96, List.forall_mem_cons.mpr ⟨lw_p97, List.forall_mem_cons.mpr ⟨lw_p98, List.forall_mem_cons.mpr ⟨lw_p99, List.forall_mem_cons.mpr ⟨lw_p100, List.forall_mem_cons.mpr ⟨lw_p101, List.forall_mem_cons.mpr ⟨lw_p102, List.forall_mem_cons.mpr ⟨lw_p103, List.forall_mem_cons.mpr ⟨lw_p104, List.forall_mem_cons.mpr ⟨lw_p105, List.forall_mem_cons.mpr ⟨lw_p106, List.forall_mem_cons.mpr ⟨lw_p107, List.forall_mem_cons.mpr ⟨lw_p108, List.forall_mem_cons.mpr ⟨lw_p109, List.forall_mem_cons.mpr ⟨lw_p110, List.forall_mem_cons.mpr ⟨lw_p111, fun _ h => absurd h List.not_mem_nil⟩⟩⟩⟩⟩⟩⟩⟩⟩⟩⟩⟩⟩⟩⟩⟩
theorem lw_p112 : lw_okq (⟨"EventLedgerModel", "numeral", "(II)I"⟩, 46) := ⟨⟨by decide +kernel, by decide +kernel⟩, List.mem_of_getElem? (i := 1011) (by decide +kernel), List.mem_of_getElem? (i := 1328) (by decide +kernel), List.mem_of_getElem? (i := 1329) (by decide +kernel)⟩
theorem lw_p113 : lw_okq (⟨"EventLedgerModel", "readRevoke", "()V"⟩, 46) := ⟨⟨by decide +kernel, by decide +kernel⟩, List.mem_of_getElem? (i := 1011) (by decide +kernel), List.mem_of_getElem? (i := 1332) (by decide +kernel), List.mem_of_getElem? (i := 1333) (by decide +kernel)⟩
theorem lw_p114 : lw_okq (⟨"EventLedgerModel", "readAccount", "()V"⟩, 46) := ⟨⟨by decide +kernel, by decide +kernel⟩, List.mem_of_getElem? (i := 1011) (by decide +kernel), List.mem_of_getElem? (i := 1336) (by decide +kernel), List.mem_of_getElem? (i := 1337) (by decide +kernel)⟩
theorem lw_p115 : lw_okq (⟨"EventLedgerModel", "newName", "([III)V"⟩, 46) := ⟨⟨by decide +kernel, by decide +kernel⟩, List.mem_of_getElem? (i := 1011) (by decide +kernel), List.mem_of_getElem? (i := 1340) (by decide +kernel), List.mem_of_getElem? (i := 1341) (by decide +kernel)⟩
theorem lw_p116 : lw_okq (⟨"EventLedgerModel", "readLift", "()V"⟩, 46) := ⟨⟨by decide +kernel, by decide +kernel⟩, List.mem_of_getElem? (i := 1011) (by decide +kernel), List.mem_of_getElem? (i := 1344) (by decide +kernel), List.mem_of_getElem? (i := 1345) (by decide +kernel)⟩
theorem lw_p117 : lw_okq (⟨"EventLedgerModel", "wordOf", "(II)I"⟩, 46) := ⟨⟨by decide +kernel, by decide +kernel⟩, List.mem_of_getElem? (i := 1011) (by decide +kernel), List.mem_of_getElem? (i := 1348) (by decide +kernel), List.mem_of_getElem? (i := 1349) (by decide +kernel)⟩
theorem lw_p118 : lw_okq (⟨"EventLedgerModel", "readTally", "()V"⟩, 46) := ⟨⟨by decide +kernel, by decide +kernel⟩, List.mem_of_getElem? (i := 1011) (by decide +kernel), List.mem_of_getElem? (i := 1355) (by decide +kernel), List.mem_of_getElem? (i := 1356) (by decide +kernel)⟩
theorem lw_p119 : lw_okq (⟨"EventLedgerModel", "readSnap", "()V"⟩, 46) := ⟨⟨by decide +kernel, by decide +kernel⟩, List.mem_of_getElem? (i := 1011) (by decide +kernel), List.mem_of_getElem? (i := 1359) (by decide +kernel), List.mem_of_getElem? (i := 1360) (by decide +kernel)⟩
theorem lw_p120 : lw_okq (⟨"EventLedgerModel", "readSeed", "()V"⟩, 46) := ⟨⟨by decide +kernel, by decide +kernel⟩, List.mem_of_getElem? (i := 1011) (by decide +kernel), List.mem_of_getElem? (i := 1363) (by decide +kernel), List.mem_of_getElem? (i := 1364) (by decide +kernel)⟩
theorem lw_p121 : lw_okq (⟨"EventLedgerModel", "accounts", "()I"⟩, 46) := ⟨⟨by decide +kernel, by decide +kernel⟩, List.mem_of_getElem? (i := 1011) (by decide +kernel), List.mem_of_getElem? (i := 1375) (by decide +kernel), List.mem_of_getElem? (i := 1376) (by decide +kernel)⟩
theorem lw_p122 : lw_okq (⟨"EventLedgerModel", "tallies", "()I"⟩, 46) := ⟨⟨by decide +kernel, by decide +kernel⟩, List.mem_of_getElem? (i := 1011) (by decide +kernel), List.mem_of_getElem? (i := 1379) (by decide +kernel), List.mem_of_getElem? (i := 1380) (by decide +kernel)⟩
theorem lw_p123 : lw_okq (⟨"EventLedgerModel", "eventOf", "(IIIIIII)I"⟩, 46) := ⟨⟨by decide +kernel, by decide +kernel⟩, List.mem_of_getElem? (i := 1011) (by decide +kernel), List.mem_of_getElem? (i := 1402) (by decide +kernel), List.mem_of_getElem? (i := 1403) (by decide +kernel)⟩
theorem lw_p124 : lw_okq (⟨"EventLedgerModel", "isAccount", "(I)Z"⟩, 46) := ⟨⟨by decide +kernel, by decide +kernel⟩, List.mem_of_getElem? (i := 1011) (by decide +kernel), List.mem_of_getElem? (i := 1406) (by decide +kernel), List.mem_of_getElem? (i := 1407) (by decide +kernel)⟩
theorem lw_p125 : lw_okq (⟨"EventLedgerModel", "latestTime", "()I"⟩, 46) := ⟨⟨by decide +kernel, by decide +kernel⟩, List.mem_of_getElem? (i := 1011) (by decide +kernel), List.mem_of_getElem? (i := 1413) (by decide +kernel), List.mem_of_getElem? (i := 1414) (by decide +kernel)⟩
theorem lw_p126 : lw_okq (⟨"EventLedgerModel", "remembers", "()V"⟩, 46) := ⟨⟨by decide +kernel, by decide +kernel⟩, List.mem_of_getElem? (i := 1011) (by decide +kernel), List.mem_of_getElem? (i := 1417) (by decide +kernel), List.mem_of_getElem? (i := 1418) (by decide +kernel)⟩
theorem lw_p127 : lw_okq (⟨"EventLedgerModel", "isEvent", "(I)Z"⟩, 46) := ⟨⟨by decide +kernel, by decide +kernel⟩, List.mem_of_getElem? (i := 1011) (by decide +kernel), List.mem_of_getElem? (i := 1429) (by decide +kernel), List.mem_of_getElem? (i := 1430) (by decide +kernel)⟩
def lw_privs_8 : List (MethodName × Nat) := [(⟨"EventLedgerModel", "numeral", "(II)I"⟩, 46), (⟨"EventLedgerModel", "readRevoke", "()V"⟩, 46), (⟨"EventLedgerModel", "readAccount", "()V"⟩, 46), (⟨"EventLedgerModel", "newName", "([III)V"⟩, 46), (⟨"EventLedgerModel", "readLift", "()V"⟩, 46), (⟨"EventLedgerModel", "wordOf", "(II)I"⟩, 46), (⟨"EventLedgerModel", "readTally", "()V"⟩, 46), (⟨"EventLedgerModel", "readSnap", "()V"⟩, 46), (⟨"EventLedgerModel", "readSeed", "()V"⟩, 46), (⟨"EventLedgerModel", "accounts", "()I"⟩, 46), (⟨"EventLedgerModel", "tallies", "()I"⟩, 46), (⟨"EventLedgerModel", "eventOf", "(IIIIIII)I"⟩, 46), (⟨"EventLedgerModel", "isAccount", "(I)Z"⟩, 46), (⟨"EventLedgerModel", "latestTime", "()I"⟩, 46), (⟨"EventLedgerModel", "remembers", "()V"⟩, 46), (⟨"EventLedgerModel", "isEvent", "(I)Z"⟩, 46)]
theorem lw_r8 : ∀ q ∈ lw_privs_8, lw_okq q := List.forall_mem_cons.mpr ⟨lw_p112, List.forall_mem_cons.mpr ⟨lw_p113, List.forall_mem_cons.mpr ⟨lw_p114, List.forall_mem_cons.mpr ⟨lw_p115, List.forall_mem_cons.mpr ⟨lw_p116, List.forall_mem_cons.mpr ⟨lw_p117, List.forall_mem_cons.mpr ⟨lw_p118, List.forall_mem_cons.mpr ⟨lw_p119, List.forall_mem_cons.mpr ⟨lw_p120, List.forall_mem_cons.mpr ⟨lw_p121, List.forall_mem_cons.mpr ⟨lw_p122, List.forall_mem_cons.mpr ⟨lw_p123, List.forall_mem_cons.mpr ⟨lw_p124, List.forall_mem_cons.mpr ⟨lw_p125, List.forall_mem_cons.mpr ⟨lw_p126, List.forall_mem_cons.mpr ⟨lw_p127, fun _ h => absurd h List.not_mem_nil⟩⟩⟩⟩⟩⟩⟩⟩⟩⟩⟩⟩⟩⟩⟩⟩
theorem lw_p128 : lw_okq (⟨"EventLedgerModel", "isVoided", "(I)Z"⟩, 46) := ⟨⟨by decide +kernel, by decide +kernel⟩, List.mem_of_getElem? (i := 1011) (by decide +kernel), List.mem_of_getElem? (i := 1433) (by decide +kernel), List.mem_of_getElem? (i := 1434) (by decide +kernel)⟩
theorem lw_p129 : lw_okq (⟨"EventLedgerModel", "replaysAll", "()V"⟩, 46) := ⟨⟨by decide +kernel, by decide +kernel⟩, List.mem_of_getElem? (i := 1011) (by decide +kernel), List.mem_of_getElem? (i := 1441) (by decide +kernel), List.mem_of_getElem? (i := 1442) (by decide +kernel)⟩
theorem lw_p130 : lw_okq (⟨"EventLedgerModel", "replays", "(IIII)V"⟩, 46) := ⟨⟨by decide +kernel, by decide +kernel⟩, List.mem_of_getElem? (i := 1011) (by decide +kernel), List.mem_of_getElem? (i := 1445) (by decide +kernel), List.mem_of_getElem? (i := 1446) (by decide +kernel)⟩
theorem lw_p131 : lw_okq (⟨"EventLedgerModel", "breaks", "(I)Z"⟩, 46) := ⟨⟨by decide +kernel, by decide +kernel⟩, List.mem_of_getElem? (i := 1011) (by decide +kernel), List.mem_of_getElem? (i := 1449) (by decide +kernel), List.mem_of_getElem? (i := 1450) (by decide +kernel)⟩
theorem lw_p132 : lw_okq (⟨"EventLedgerModel", "breaksBy", "(I)Z"⟩, 46) := ⟨⟨by decide +kernel, by decide +kernel⟩, List.mem_of_getElem? (i := 1011) (by decide +kernel), List.mem_of_getElem? (i := 1453) (by decide +kernel), List.mem_of_getElem? (i := 1454) (by decide +kernel)⟩
theorem lw_p133 : lw_okq (⟨"EventLedgerModel", "causeOf", "(IIIZ)I"⟩, 46) := ⟨⟨by decide +kernel, by decide +kernel⟩, List.mem_of_getElem? (i := 1011) (by decide +kernel), List.mem_of_getElem? (i := 1458) (by decide +kernel), List.mem_of_getElem? (i := 1459) (by decide +kernel)⟩
theorem lw_p134 : lw_okq (⟨"EventLedgerModel", "applies", "(III)V"⟩, 46) := ⟨⟨by decide +kernel, by decide +kernel⟩, List.mem_of_getElem? (i := 1011) (by decide +kernel), List.mem_of_getElem? (i := 1462) (by decide +kernel), List.mem_of_getElem? (i := 1463) (by decide +kernel)⟩
theorem lw_p135 : lw_okq (⟨"EventLedgerModel", "has", "(II)I"⟩, 46) := ⟨⟨by decide +kernel, by decide +kernel⟩, List.mem_of_getElem? (i := 1011) (by decide +kernel), List.mem_of_getElem? (i := 1478) (by decide +kernel), List.mem_of_getElem? (i := 1479) (by decide +kernel)⟩
theorem lw_p136 : lw_okq (⟨"EventLedgerModel", "placeAt", "(I)I"⟩, 46) := ⟨⟨by decide +kernel, by decide +kernel⟩, List.mem_of_getElem? (i := 1011) (by decide +kernel), List.mem_of_getElem? (i := 1486) (by decide +kernel), List.mem_of_getElem? (i := 1487) (by decide +kernel)⟩
theorem lw_p137 : lw_okq (⟨"EventLedgerModel", "costOf", "(I)I"⟩, 46) := ⟨⟨by decide +kernel, by decide +kernel⟩, List.mem_of_getElem? (i := 1011) (by decide +kernel), List.mem_of_getElem? (i := 1498) (by decide +kernel), List.mem_of_getElem? (i := 1499) (by decide +kernel)⟩
theorem lw_p138 : lw_okq (⟨"EventLedgerModel", "costsWith", "(I)I"⟩, 46) := ⟨⟨by decide +kernel, by decide +kernel⟩, List.mem_of_getElem? (i := 1011) (by decide +kernel), List.mem_of_getElem? (i := 1518) (by decide +kernel), List.mem_of_getElem? (i := 1519) (by decide +kernel)⟩
theorem lw_p139 : lw_okq (⟨"EventLedgerModel", "asidesNow", "()I"⟩, 46) := ⟨⟨by decide +kernel, by decide +kernel⟩, List.mem_of_getElem? (i := 1011) (by decide +kernel), List.mem_of_getElem? (i := 1554) (by decide +kernel), List.mem_of_getElem? (i := 1555) (by decide +kernel)⟩
theorem lw_p140 : lw_okq (⟨"EventLedgerModel", "isTally", "(I)Z"⟩, 46) := ⟨⟨by decide +kernel, by decide +kernel⟩, List.mem_of_getElem? (i := 1011) (by decide +kernel), List.mem_of_getElem? (i := 1562) (by decide +kernel), List.mem_of_getElem? (i := 1563) (by decide +kernel)⟩
theorem lw_p141 : lw_okq (⟨"EventLedgerModel", "sees", "(II)V"⟩, 46) := ⟨⟨by decide +kernel, by decide +kernel⟩, List.mem_of_getElem? (i := 1011) (by decide +kernel), List.mem_of_getElem? (i := 1569) (by decide +kernel), List.mem_of_getElem? (i := 1570) (by decide +kernel)⟩
theorem lw_p142 : lw_okq (⟨"EventLedgerModel", "counts", "(II)I"⟩, 46) := ⟨⟨by decide +kernel, by decide +kernel⟩, List.mem_of_getElem? (i := 1011) (by decide +kernel), List.mem_of_getElem? (i := 1573) (by decide +kernel), List.mem_of_getElem? (i := 1574) (by decide +kernel)⟩
theorem lw_p143 : lw_okq (⟨"EventLedgerModel", "countedMany", "(I)I"⟩, 46) := ⟨⟨by decide +kernel, by decide +kernel⟩, List.mem_of_getElem? (i := 1011) (by decide +kernel), List.mem_of_getElem? (i := 1585) (by decide +kernel), List.mem_of_getElem? (i := 1586) (by decide +kernel)⟩
def lw_privs_9 : List (MethodName × Nat) := [(⟨"EventLedgerModel", "isVoided", "(I)Z"⟩, 46), (⟨"EventLedgerModel", "replaysAll", "()V"⟩, 46), (⟨"EventLedgerModel", "replays", "(IIII)V"⟩, 46), (⟨"EventLedgerModel", "breaks", "(I)Z"⟩, 46), (⟨"EventLedgerModel", "breaksBy", "(I)Z"⟩, 46), (⟨"EventLedgerModel", "causeOf", "(IIIZ)I"⟩, 46), (⟨"EventLedgerModel", "applies", "(III)V"⟩, 46), (⟨"EventLedgerModel", "has", "(II)I"⟩, 46), (⟨"EventLedgerModel", "placeAt", "(I)I"⟩, 46), (⟨"EventLedgerModel", "costOf", "(I)I"⟩, 46), (⟨"EventLedgerModel", "costsWith", "(I)I"⟩, 46), (⟨"EventLedgerModel", "asidesNow", "()I"⟩, 46), (⟨"EventLedgerModel", "isTally", "(I)Z"⟩, 46), (⟨"EventLedgerModel", "sees", "(II)V"⟩, 46), (⟨"EventLedgerModel", "counts", "(II)I"⟩, 46), (⟨"EventLedgerModel", "countedMany", "(I)I"⟩, 46)]
theorem lw_r9 : ∀ q ∈ lw_privs_9, lw_okq q := List.forall_mem_cons.mpr ⟨lw_p128, List.forall_mem_cons.mpr ⟨lw_p129, List.forall_mem_cons.mpr ⟨lw_p130, List.forall_mem_cons.mpr ⟨lw_p131, List.forall_mem_cons.mpr ⟨lw_p132, List.forall_mem_cons.mpr ⟨lw_p133, List.forall_mem_cons.mpr ⟨lw_p134, List.forall_mem_cons.mpr ⟨lw_p135, List.forall_mem_cons.mpr ⟨lw_p136, List.forall_mem_cons.mpr ⟨lw_p137, List.forall_mem_cons.mpr ⟨lw_p138, List.forall_mem_cons.mpr ⟨lw_p139, List.forall_mem_cons.mpr ⟨lw_p140, List.forall_mem_cons.mpr ⟨lw_p141, List.forall_mem_cons.mpr ⟨lw_p142, List.forall_mem_cons.mpr ⟨lw_p143, fun _ h => absurd h List.not_mem_nil⟩⟩⟩⟩⟩⟩⟩⟩⟩⟩⟩⟩⟩⟩⟩⟩
theorem lw_p144 : lw_okq (⟨"EventLedgerModel", "sums", "(I)I"⟩, 46) := ⟨⟨by decide +kernel, by decide +kernel⟩, List.mem_of_getElem? (i := 1011) (by decide +kernel), List.mem_of_getElem? (i := 1589) (by decide +kernel), List.mem_of_getElem? (i := 1590) (by decide +kernel)⟩
theorem lw_p145 : lw_okq (⟨"EventLedgerModel", "anew", "(I)I"⟩, 46) := ⟨⟨by decide +kernel, by decide +kernel⟩, List.mem_of_getElem? (i := 1011) (by decide +kernel), List.mem_of_getElem? (i := 1593) (by decide +kernel), List.mem_of_getElem? (i := 1594) (by decide +kernel)⟩
theorem lw_p146 : lw_okq (⟨"EventLedgerModel", "draw", "(I)I"⟩, 46) := ⟨⟨by decide +kernel, by decide +kernel⟩, List.mem_of_getElem? (i := 1011) (by decide +kernel), List.mem_of_getElem? (i := 1605) (by decide +kernel), List.mem_of_getElem? (i := 1606) (by decide +kernel)⟩
theorem lw_p147 : lw_okq (⟨"EventLedgerModel", "balances", "()I"⟩, 46) := ⟨⟨by decide +kernel, by decide +kernel⟩, List.mem_of_getElem? (i := 1011) (by decide +kernel), List.mem_of_getElem? (i := 1611) (by decide +kernel), List.mem_of_getElem? (i := 1612) (by decide +kernel)⟩
theorem lw_p148 : lw_okq (⟨"EventLedgerModel", "asideMany", "()I"⟩, 46) := ⟨⟨by decide +kernel, by decide +kernel⟩, List.mem_of_getElem? (i := 1011) (by decide +kernel), List.mem_of_getElem? (i := 1619) (by decide +kernel), List.mem_of_getElem? (i := 1620) (by decide +kernel)⟩
theorem lw_p149 : lw_okq (⟨"EventLedgerModel", "voidedMany", "()I"⟩, 46) := ⟨⟨by decide +kernel, by decide +kernel⟩, List.mem_of_getElem? (i := 1011) (by decide +kernel), List.mem_of_getElem? (i := 1623) (by decide +kernel), List.mem_of_getElem? (i := 1624) (by decide +kernel)⟩
theorem lw_p150 : lw_okq (⟨"EventLedgerModel", "openMany", "()I"⟩, 46) := ⟨⟨by decide +kernel, by decide +kernel⟩, List.mem_of_getElem? (i := 1011) (by decide +kernel), List.mem_of_getElem? (i := 1627) (by decide +kernel), List.mem_of_getElem? (i := 1628) (by decide +kernel)⟩
def lw_privs_10 : List (MethodName × Nat) := [(⟨"EventLedgerModel", "sums", "(I)I"⟩, 46), (⟨"EventLedgerModel", "anew", "(I)I"⟩, 46), (⟨"EventLedgerModel", "draw", "(I)I"⟩, 46), (⟨"EventLedgerModel", "balances", "()I"⟩, 46), (⟨"EventLedgerModel", "asideMany", "()I"⟩, 46), (⟨"EventLedgerModel", "voidedMany", "()I"⟩, 46), (⟨"EventLedgerModel", "openMany", "()I"⟩, 46)]
theorem lw_r10 : ∀ q ∈ lw_privs_10, lw_okq q := List.forall_mem_cons.mpr ⟨lw_p144, List.forall_mem_cons.mpr ⟨lw_p145, List.forall_mem_cons.mpr ⟨lw_p146, List.forall_mem_cons.mpr ⟨lw_p147, List.forall_mem_cons.mpr ⟨lw_p148, List.forall_mem_cons.mpr ⟨lw_p149, List.forall_mem_cons.mpr ⟨lw_p150, fun _ h => absurd h List.not_mem_nil⟩⟩⟩⟩⟩⟩⟩
def lw_privs : List (MethodName × Nat) := lw_privs_1 ++ (lw_privs_2 ++ (lw_privs_3 ++ (lw_privs_4 ++ (lw_privs_5 ++ (lw_privs_6 ++ (lw_privs_7 ++ (lw_privs_8 ++ (lw_privs_9 ++ (lw_privs_10)))))))))
def lw_tbl : List Cond := k2_sels lw_privs ++ tables_1
theorem lw_privs_ok : ∀ q ∈ lw_privs, lw_okq q := by
  show ∀ q ∈ lw_privs_1 ++ (lw_privs_2 ++ (lw_privs_3 ++ (lw_privs_4 ++ (lw_privs_5 ++ (lw_privs_6 ++ (lw_privs_7 ++ (lw_privs_8 ++ (lw_privs_9 ++ (lw_privs_10))))))))), lw_okq q
  exact List.forall_mem_append.mpr ⟨lw_r1, List.forall_mem_append.mpr ⟨lw_r2, List.forall_mem_append.mpr ⟨lw_r3, List.forall_mem_append.mpr ⟨lw_r4, List.forall_mem_append.mpr ⟨lw_r5, List.forall_mem_append.mpr ⟨lw_r6, List.forall_mem_append.mpr ⟨lw_r7, List.forall_mem_append.mpr ⟨lw_r8, List.forall_mem_append.mpr ⟨lw_r9, lw_r10⟩⟩⟩⟩⟩⟩⟩⟩⟩
end
section
/-! THE ABSTRACT MACHINE: numbers are Int (each stands for its word of 32 or 64 bits), cells have numbers in the order of their making; g holds what is a number, r what is a reference. -/
abbrev ab_V : Type := Nat × Int
abbrev ab_H : Type := Int → Int → Int
abbrev ab_W : Type := Int × Nat × ab_H × ab_H
abbrev ab_L : Type := List (Nat × ab_V)
abbrev ab_O : Type := Nat × Nat × Int × Nat
/-- the number of 32 bits that an Int stands for -/
def wr (x : Int) : Int := (x + 2147483648) % 4294967296 - 2147483648
def wl (x : Int) : Int := (x + 9223372036854775808) % 18446744073709551616 - 9223372036854775808
def ab_up (g : ab_H) (a k v : Int) : ab_H := fun a' k' => if a' = a ∧ k' = k then v else g a' k'
def ab_nth {α : Type} : List α → Nat → Option α
  | [], _ => none
  | a :: _, 0 => some a
  | _ :: l, n + 1 => ab_nth l n

-- the cells, in the order of their making: kind (a class, or 100 + a type of array), length
def ab_kdl : List (Int × Int) := [(0, 18), (101, 900), (7, 8), (100, 3), (8, 8), (6, 13), (100, 8), (100, 4), (100, 4), (100, 4), (100, 14), (100, 56), (100, 56), (100, 56), (6, 13), (100, 8), (100, 4), (100, 4), (100, 4), (100, 14), (100, 56), (100, 56), (100, 56), (1, 11), (100, 120), (100, 120), (100, 120), (100, 120), (100, 120), (100, 360), (100, 360), (100, 120), (100, 120), (100, 121), (1, 11), (100, 120), (100, 120), (100, 120), (100, 120), (100, 120), (100, 360), (100, 360), (100, 120), (100, 120), (100, 121), (2, 7), (100, 8), (100, 8), (100, 8), (100, 8), (100, 120), (2, 7), (100, 8), (100, 8), (100, 8), (100, 8), (100, 120), (3, 4), (100, 7), (3, 4), (100, 7), (4, 2), (100, 4), (100, 120), (100, 3), (104, 20), (1, 11), (100, 120), (100, 120), (100, 120), (100, 120), (100, 120), (100, 360), (100, 360), (100, 120), (100, 120), (100, 121), (5, 4), (4, 2), (100, 4), (100, 120), (5, 4), (4, 2), (100, 4), (100, 120), (5, 4), (4, 2), (100, 4), (100, 120), (5, 4), (4, 2), (100, 4), (100, 120), (5, 4), (4, 2), (100, 4), (100, 120), (5, 4), (4, 2), (100, 4), (100, 120), (5, 4), (4, 2), (100, 4), (100, 120), (5, 4), (4, 2), (100, 4), (100, 120), (5, 4), (4, 2), (100, 4), (100, 120), (5, 4), (4, 2), (100, 4), (100, 120), (5, 4), (4, 2), (100, 4), (100, 120), (5, 4), (4, 2), (100, 4), (100, 120), (5, 4), (4, 2), (100, 4), (100, 120), (5, 4), (4, 2), (100, 4), (100, 120), (5, 4), (4, 2), (100, 4), (100, 120), (5, 4), (4, 2), (100, 4), (100, 120), (5, 4), (4, 2), (100, 4), (100, 120), (5, 4), (4, 2), (100, 4), (100, 120), (5, 4), (4, 2), (100, 4), (100, 120), (5, 4), (4, 2), (100, 4), (100, 120), (5, 4), (4, 2), (100, 4), (100, 120), (9, 46), (100, 900), (100, 12), (100, 16), (100, 8), (100, 8), (100, 8), (100, 28), (100, 112), (100, 112), (100, 112), (100, 400), (100, 50), (100, 1607), (100, 1607), (100, 1607), (100, 32140), (100, 3), (100, 8), (100, 8), (100, 8), (102, 8), (100, 120), (100, 120), (103, 1)]
-- the code: (op, a, b, the next place)
/-- EventLedger.<init> ()V -/
def ab_c0 : List ab_O := [(5, 0, 0, 1), (58, 0, 0, 2), (5, 0, 0, 3), (2, 0, 900, 4), (53, 1, 0, 5), (41, 0, 0, 6), (5, 0, 0, 7), (52, 7, 0, 8), (28, 0, 0, 9), (5, 0, 0, 10), (37, 0, 0, 11), (1, 180, 2, 12), (41, 2, 0, 13), (5, 0, 0, 14), (52, 6, 0, 15), (28, 0, 0, 16), (1, 226, 1, 17), (40, 3, 0, 18), (5, 0, 0, 19), (52, 6, 0, 20), (28, 0, 0, 21), (1, 226, 1, 22), (40, 4, 0, 23), (5, 0, 0, 24), (52, 1, 0, 25), (28, 0, 0, 26), (1, 166, 1, 27), (40, 5, 0, 28), (5, 0, 0, 29), (52, 1, 0, 30), (28, 0, 0, 31), (1, 166, 1, 32), (40, 6, 0, 33), (5, 0, 0, 34), (52, 2, 0, 35), (28, 0, 0, 36), (1, 206, 1, 37), (41, 7, 0, 38), (5, 0, 0, 39), (52, 2, 0, 40), (28, 0, 0, 41), (1, 206, 1, 42), (41, 8, 0, 43), (5, 0, 0, 44), (52, 3, 0, 45), (28, 0, 0, 46), (1, 199, 1, 47), (41, 9, 0, 48), (5, 0, 0, 49), (52, 3, 0, 50), (28, 0, 0, 51), (1, 199, 1, 52), (41, 10, 0, 53), (5, 0, 0, 54), (52, 4, 0, 55), (28, 0, 0, 56), (1, 218, 1, 57), (41, 11, 0, 58), (5, 0, 0, 59), (2, 0, 3, 60), (53, 0, 0, 61), (41, 12, 0, 62), (5, 0, 0, 63), (2, 0, 20, 64), (54, 0, 0, 65), (41, 13, 0, 66), (5, 0, 0, 67), (52, 1, 0, 68), (28, 0, 0, 69), (1, 166, 1, 70), (41, 15, 0, 71), (5, 0, 0, 72), (52, 5, 0, 73), (28, 0, 0, 74), (1, 179, 1, 75), (41, 16, 0, 76), (2, 0, 0, 77), (6, 1, 0, 78), (3, 1, 0, 79), (2, 0, 20, 80), (33, 90, 3, 81), (5, 0, 0, 82), (37, 13, 0, 83), (3, 1, 0, 84), (52, 5, 0, 85), (28, 0, 0, 86), (1, 179, 1, 87), (60, 0, 0, 88), (9, 1, 1, 89), (31, 78, 0, 90), (5, 0, 0, 91), (37, 9, 0, 92), (5, 0, 0, 93), (37, 3, 0, 94), (35, 10, 6, 95), (38, 2, 3, 96), (5, 0, 0, 97), (37, 9, 0, 98), (5, 0, 0, 99), (37, 3, 0, 100), (35, 11, 6, 101), (38, 3, 3, 102), (0, 0, 0, 103)]
/-- EventLedger.feed (IIIII)I -/
def ab_c1 : List ab_O := [(5, 0, 0, 1), (35, 1, 0, 2), (2, 0, 20, 3), (10, 0, 0, 4), (2, 0, 900, 5), (33, 8, 5, 6), (2, 0, -1, 7), (0, 1, 0, 8), (5, 0, 0, 9), (3, 1, 0, 10), (1, 35, 2, 11), (5, 0, 0, 12), (3, 2, 0, 13), (1, 35, 2, 14), (5, 0, 0, 15), (3, 3, 0, 16), (1, 35, 2, 17), (5, 0, 0, 18), (3, 4, 0, 19), (1, 35, 2, 20), (5, 0, 0, 21), (3, 5, 0, 22), (1, 35, 2, 23), (5, 0, 0, 24), (35, 1, 0, 25), (0, 1, 0, 26)]
/-- EventLedger.text (I)I -/
def ab_c2 : List ab_O := [(3, 1, 0, 1), (32, 6, 2, 2), (3, 1, 0, 3), (5, 0, 0, 4), (35, 1, 0, 5), (33, 8, 5, 6), (2, 0, -2, 7), (0, 1, 0, 8), (5, 0, 0, 9), (2, 0, 0, 10), (38, 1, 0, 11), (5, 0, 0, 12), (37, 2, 0, 13), (3, 1, 0, 14), (5, 0, 0, 15), (37, 4, 0, 16), (5, 0, 0, 17), (37, 6, 0, 18), (1, 181, 4, 19), (6, 2, 0, 20), (3, 2, 0, 21), (2, 0, -1, 22), (33, 25, 1, 23), (2, 0, -1, 24), (0, 1, 0, 25), (5, 0, 0, 26), (1, 36, 1, 27), (5, 0, 0, 28), (37, 9, 0, 29), (5, 0, 0, 30), (37, 3, 0, 31), (35, 10, 6, 32), (38, 2, 3, 33), (5, 0, 0, 34), (37, 9, 0, 35), (5, 0, 0, 36), (37, 3, 0, 37), (35, 11, 6, 38), (38, 3, 3, 39), (5, 0, 0, 40), (37, 11, 0, 41), (1, 219, 1, 42), (5, 0, 0, 43), (2, 0, 0, 44), (38, 14, 0, 45), (5, 0, 0, 46), (2, 0, 0, 47), (39, 17, 0, 48), (5, 0, 0, 49), (1, 45, 1, 50), (3, 2, 0, 51), (0, 1, 0, 52)]
/-- EventLedger.fault (I)I -/
def ab_c3 : List ab_O := [(3, 1, 0, 1), (32, 6, 1, 2), (5, 0, 0, 3), (37, 2, 0, 4), (35, 6, 7, 5), (0, 1, 0, 6), (3, 1, 0, 7), (2, 0, 1, 8), (33, 13, 1, 9), (5, 0, 0, 10), (37, 2, 0, 11), (35, 7, 7, 12), (31, 14, 0, 13), (2, 0, -1, 14), (0, 1, 0, 15)]
/-- EventLedger.named (II)I -/
def ab_c4 : List ab_O := [(3, 1, 0, 1), (32, 7, 1, 2), (5, 0, 0, 3), (37, 3, 0, 4), (3, 2, 0, 5), (1, 228, 2, 6), (0, 1, 0, 7), (3, 1, 0, 8), (2, 0, 1, 9), (33, 15, 1, 10), (5, 0, 0, 11), (37, 3, 0, 12), (3, 2, 0, 13), (1, 229, 2, 14), (31, 16, 0, 15), (2, 0, -1, 16), (0, 1, 0, 17)]
/-- EventLedger.event (IIIIII)I -/
def ab_c5 : List ab_O := [(5, 0, 0, 1), (3, 1, 0, 2), (3, 2, 0, 3), (3, 3, 0, 4), (1, 41, 4, 5), (32, 15, 0, 6), (3, 4, 0, 7), (1, 39, 1, 8), (32, 15, 0, 9), (3, 5, 0, 10), (1, 40, 1, 11), (32, 15, 0, 12), (3, 6, 0, 13), (1, 40, 1, 14), (32, 17, 1, 15), (2, 0, -1, 16), (0, 1, 0, 17), (5, 0, 0, 18), (3, 5, 0, 19), (3, 6, 0, 20), (1, 42, 3, 21), (5, 0, 0, 22), (3, 1, 0, 23), (3, 2, 0, 24), (3, 3, 0, 25), (3, 4, 0, 26), (2, 0, 3, 27), (1, 44, 6, 28), (0, 1, 0, 29)]
/-- EventLedger.old (IIIII)I -/
def ab_c6 : List ab_O := [(5, 0, 0, 1), (3, 1, 0, 2), (3, 2, 0, 3), (3, 3, 0, 4), (1, 41, 4, 5), (32, 12, 0, 6), (3, 4, 0, 7), (1, 39, 1, 8), (32, 12, 0, 9), (3, 5, 0, 10), (1, 40, 1, 11), (32, 14, 1, 12), (2, 0, -1, 13), (0, 1, 0, 14), (5, 0, 0, 15), (3, 5, 0, 16), (2, 0, 0, 17), (1, 42, 3, 18), (5, 0, 0, 19), (3, 1, 0, 20), (3, 2, 0, 21), (3, 3, 0, 22), (3, 4, 0, 23), (2, 0, 1, 24), (1, 44, 6, 25), (0, 1, 0, 26)]
/-- EventLedger.revoke (II)I -/
def ab_c7 : List ab_O := [(5, 0, 0, 1), (37, 5, 0, 2), (3, 1, 0, 3), (1, 169, 2, 4), (32, 15, 0, 5), (5, 0, 0, 6), (37, 5, 0, 7), (37, 8, 1, 8), (3, 1, 0, 9), (43, 0, 0, 10), (2, 0, -1, 11), (33, 15, 1, 12), (3, 2, 0, 13), (1, 39, 1, 14), (32, 17, 1, 15), (2, 0, -1, 16), (0, 1, 0, 17), (5, 0, 0, 18), (3, 2, 0, 19), (1, 43, 2, 20), (6, 3, 0, 21), (3, 3, 0, 22), (32, 25, 0, 23), (3, 3, 0, 24), (0, 1, 0, 25), (5, 0, 0, 26), (1, 55, 1, 27), (5, 0, 0, 28), (37, 5, 0, 29), (3, 1, 0, 30), (3, 2, 0, 31), (1, 172, 3, 32), (5, 0, 0, 33), (1, 45, 1, 34), (5, 0, 0, 35), (37, 5, 0, 36), (35, 10, 1, 37), (2, 0, 1, 38), (11, 0, 0, 39), (0, 1, 0, 40)]
/-- EventLedger.of (II)I -/
def ab_c8 : List ab_O := [(5, 0, 0, 1), (37, 5, 0, 2), (3, 1, 0, 3), (1, 168, 2, 4), (32, 10, 1, 5), (72, 1, 0, 6), (28, 0, 0, 7), (99, 0, 0, 8), (97, 0, 0, 9), (96, 0, 0, 10), (3, 2, 0, 11), (34, 0, 0, 12), (5, 0, 0, 13), (37, 5, 0, 14), (37, 0, 1, 15), (3, 1, 0, 16), (43, 0, 0, 17), (0, 1, 0, 18), (5, 0, 0, 19), (37, 5, 0, 20), (37, 0, 1, 21), (3, 1, 0, 22), (43, 0, 0, 23), (2, 0, 7, 24), (33, 27, 1, 25), (2, 0, -2, 26), (31, 32, 0, 27), (5, 0, 0, 28), (37, 5, 0, 29), (37, 1, 1, 30), (3, 1, 0, 31), (43, 0, 0, 32), (0, 1, 0, 33), (5, 0, 0, 34), (37, 5, 0, 35), (37, 0, 1, 36), (3, 1, 0, 37), (43, 0, 0, 38), (2, 0, 7, 39), (33, 47, 0, 40), (5, 0, 0, 41), (37, 5, 0, 42), (37, 0, 1, 43), (3, 1, 0, 44), (43, 0, 0, 45), (2, 0, 6, 46), (33, 53, 1, 47), (5, 0, 0, 48), (37, 5, 0, 49), (37, 2, 1, 50), (3, 1, 0, 51), (43, 0, 0, 52), (31, 54, 0, 53), (2, 0, -2, 54), (0, 1, 0, 55), (5, 0, 0, 56), (37, 5, 0, 57), (37, 3, 1, 58), (3, 1, 0, 59), (43, 0, 0, 60), (0, 1, 0, 61), (5, 0, 0, 62), (37, 5, 0, 63), (37, 4, 1, 64), (3, 1, 0, 65), (43, 0, 0, 66), (0, 1, 0, 67), (5, 0, 0, 68), (37, 7, 0, 69), (37, 4, 2, 70), (3, 1, 0, 71), (43, 0, 0, 72), (0, 1, 0, 73), (5, 0, 0, 74), (37, 5, 0, 75), (37, 8, 1, 76), (3, 1, 0, 77), (43, 0, 0, 78), (2, 0, -1, 79), (33, 82, 0, 80), (2, 0, 1, 81), (31, 83, 0, 82), (2, 0, 0, 83), (0, 1, 0, 84), (5, 0, 0, 85), (37, 5, 0, 86), (3, 1, 0, 87), (3, 1, 0, 88), (2, 0, 1, 89), (10, 0, 0, 90), (1, 175, 3, 91), (0, 1, 0, 92), (72, 2, 0, 93), (28, 0, 0, 94), (99, 0, 0, 95), (97, 0, 0, 96), (96, 0, 0, 97)]
/-- EventLedger.field (IIZ)I -/
def ab_c9 : List ab_O := [(5, 0, 0, 1), (37, 5, 0, 2), (3, 1, 0, 3), (1, 169, 2, 4), (32, 11, 0, 5), (3, 2, 0, 6), (2, 0, 1, 7), (33, 11, 2, 8), (3, 2, 0, 9), (2, 0, 3, 10), (33, 13, 5, 11), (2, 0, -1, 12), (0, 1, 0, 13), (2, 0, 3, 14), (3, 1, 0, 15), (12, 0, 0, 16), (3, 2, 0, 17), (10, 0, 0, 18), (2, 0, 1, 19), (11, 0, 0, 20), (6, 4, 0, 21), (3, 3, 0, 22), (32, 29, 0, 23), (5, 0, 0, 24), (37, 5, 0, 25), (37, 6, 1, 26), (3, 4, 0, 27), (43, 0, 0, 28), (31, 34, 0, 29), (5, 0, 0, 30), (37, 5, 0, 31), (37, 5, 1, 32), (3, 4, 0, 33), (43, 0, 0, 34), (0, 1, 0, 35)]
/-- EventLedger.account (II)I -/
def ab_c10 : List ab_O := [(5, 0, 0, 1), (3, 1, 0, 2), (1, 37, 2, 3), (32, 10, 0, 4), (5, 0, 0, 5), (37, 7, 0, 6), (3, 1, 0, 7), (3, 2, 0, 8), (1, 214, 3, 9), (31, 11, 0, 10), (2, 0, -2147483648, 11), (0, 1, 0, 12)]
/-- EventLedger.at (III)I -/
def ab_c11 : List ab_O := [(3, 1, 0, 1), (1, 39, 1, 2), (32, 7, 0, 3), (5, 0, 0, 4), (3, 2, 0, 5), (1, 37, 2, 6), (32, 9, 1, 7), (2, 0, -2147483648, 8), (0, 1, 0, 9), (5, 0, 0, 10), (37, 8, 0, 11), (5, 0, 0, 12), (37, 5, 0, 13), (5, 0, 0, 14), (37, 5, 0, 15), (3, 1, 0, 16), (1, 176, 2, 17), (5, 0, 0, 18), (37, 5, 0, 19), (35, 10, 1, 20), (2, 0, -1, 21), (1, 208, 5, 22), (5, 0, 0, 23), (37, 8, 0, 24), (3, 2, 0, 25), (3, 3, 0, 26), (1, 214, 3, 27), (0, 1, 0, 28)]
/-- EventLedger.known (III)I -/
def ab_c12 : List ab_O := [(3, 1, 0, 1), (1, 39, 1, 2), (32, 7, 0, 3), (5, 0, 0, 4), (3, 2, 0, 5), (1, 37, 2, 6), (32, 9, 1, 7), (2, 0, -2147483648, 8), (0, 1, 0, 9), (5, 0, 0, 10), (37, 5, 0, 11), (3, 1, 0, 12), (1, 176, 2, 13), (6, 4, 0, 14), (5, 0, 0, 15), (37, 8, 0, 16), (5, 0, 0, 17), (37, 5, 0, 18), (3, 4, 0, 19), (3, 4, 0, 20), (2, 0, -1, 21), (1, 208, 5, 22), (5, 0, 0, 23), (37, 8, 0, 24), (3, 2, 0, 25), (3, 3, 0, 26), (1, 214, 3, 27), (0, 1, 0, 28)]
/-- EventLedger.cost (I)I -/
def ab_c13 : List ab_O := [(3, 1, 0, 1), (32, 11, 2, 2), (3, 1, 0, 3), (5, 0, 0, 4), (37, 5, 0, 5), (35, 10, 1, 6), (33, 11, 4, 7), (5, 0, 0, 8), (3, 1, 0, 9), (1, 46, 2, 10), (31, 12, 0, 11), (2, 0, -1, 12), (0, 1, 0, 13)]
/-- EventLedger.costAt (I)I -/
def ab_c14 : List ab_O := [(3, 1, 0, 1), (1, 39, 1, 2), (32, 10, 0, 3), (5, 0, 0, 4), (5, 0, 0, 5), (37, 5, 0, 6), (3, 1, 0, 7), (1, 176, 2, 8), (1, 46, 2, 9), (31, 11, 0, 10), (2, 0, -1, 11), (0, 1, 0, 12)]
/-- EventLedger.snapshot (I)I -/
def ab_c15 : List ab_O := [(3, 1, 0, 1), (32, 4, 3, 2), (2, 0, -1, 3), (0, 1, 0, 4), (3, 1, 0, 5), (5, 0, 0, 6), (37, 9, 0, 7), (35, 1, 3, 8), (33, 15, 3, 9), (5, 0, 0, 10), (37, 9, 0, 11), (37, 0, 3, 12), (3, 1, 0, 13), (43, 0, 0, 14), (31, 16, 0, 15), (2, 0, -2, 16), (0, 1, 0, 17)]
/-- EventLedger.inSnapshot (III)I -/
def ab_c16 : List ab_O := [(3, 1, 0, 1), (32, 11, 2, 2), (3, 1, 0, 3), (5, 0, 0, 4), (37, 9, 0, 5), (35, 1, 3, 6), (33, 11, 3, 7), (5, 0, 0, 8), (3, 2, 0, 9), (1, 37, 2, 10), (32, 13, 1, 11), (2, 0, -2147483648, 12), (0, 1, 0, 13), (5, 0, 0, 14), (37, 8, 0, 15), (5, 0, 0, 16), (37, 5, 0, 17), (5, 0, 0, 18), (37, 9, 0, 19), (37, 0, 3, 20), (3, 1, 0, 21), (43, 0, 0, 22), (5, 0, 0, 23), (37, 5, 0, 24), (35, 10, 1, 25), (2, 0, -1, 26), (1, 208, 5, 27), (5, 0, 0, 28), (37, 8, 0, 29), (3, 2, 0, 30), (3, 3, 0, 31), (1, 214, 3, 32), (0, 1, 0, 33)]
/-- EventLedger.bestPlace (I)I -/
def ab_c17 : List ab_O := [(3, 1, 0, 1), (32, 5, 2, 2), (3, 1, 0, 3), (2, 0, 1, 4), (33, 7, 5, 5), (2, 0, -1, 6), (0, 1, 0, 7), (2, 0, 0, 8), (6, 2, 0, 9), (2, 0, 0, 10), (6, 3, 0, 11), (2, 0, 0, 12), (6, 4, 0, 13), (2, 0, 0, 14), (6, 5, 0, 15), (3, 5, 0, 16), (5, 0, 0, 17), (37, 5, 0, 18), (35, 10, 1, 19), (33, 51, 4, 20), (5, 0, 0, 21), (3, 5, 0, 22), (1, 46, 2, 23), (6, 6, 0, 24), (3, 2, 0, 25), (3, 6, 0, 26), (10, 0, 0, 27), (6, 2, 0, 28), (3, 6, 0, 29), (5, 0, 0, 30), (37, 9, 0, 31), (3, 5, 0, 32), (5, 0, 0, 33), (37, 5, 0, 34), (35, 10, 1, 35), (2, 0, 1, 36), (10, 0, 0, 37), (1, 205, 3, 38), (3, 5, 0, 39), (11, 0, 0, 40), (12, 0, 0, 41), (6, 7, 0, 42), (3, 7, 0, 43), (3, 4, 0, 44), (33, 49, 5, 45), (3, 7, 0, 46), (6, 4, 0, 47), (3, 5, 0, 48), (6, 3, 0, 49), (9, 5, 1, 50), (31, 15, 0, 51), (3, 1, 0, 52), (32, 55, 1, 53), (3, 3, 0, 54), (31, 58, 0, 55), (3, 2, 0, 56), (3, 4, 0, 57), (11, 0, 0, 58), (0, 1, 0, 59)]
/-- EventLedger.aside (I)I -/
def ab_c18 : List ab_O := [(3, 1, 0, 1), (32, 4, 3, 2), (2, 0, -1, 3), (0, 1, 0, 4), (2, 0, 0, 5), (6, 2, 0, 6), (2, 0, 0, 7), (6, 3, 0, 8), (3, 3, 0, 9), (5, 0, 0, 10), (37, 5, 0, 11), (35, 10, 1, 12), (33, 27, 3, 13), (5, 0, 0, 14), (37, 7, 0, 15), (37, 4, 2, 16), (3, 3, 0, 17), (43, 0, 0, 18), (32, 25, 0, 19), (3, 2, 0, 20), (3, 1, 0, 21), (33, 24, 1, 22), (3, 3, 0, 23), (0, 1, 0, 24), (9, 2, 1, 25), (9, 3, 1, 26), (31, 8, 0, 27), (2, 0, -2, 28), (0, 1, 0, 29)]
/-- EventLedger.blame (I)I -/
def ab_c19 : List ab_O := [(5, 0, 0, 1), (37, 5, 0, 2), (3, 1, 0, 3), (1, 168, 2, 4), (32, 11, 0, 5), (5, 0, 0, 6), (37, 7, 0, 7), (37, 4, 2, 8), (3, 1, 0, 9), (43, 0, 0, 10), (32, 13, 1, 11), (2, 0, -1, 12), (0, 1, 0, 13), (2, 0, 0, 14), (6, 2, 0, 15), (3, 2, 0, 16), (3, 1, 0, 17), (33, 52, 3, 18), (5, 0, 0, 19), (37, 5, 0, 20), (3, 2, 0, 21), (1, 169, 2, 22), (32, 50, 0, 23), (5, 0, 0, 24), (37, 5, 0, 25), (37, 8, 1, 26), (3, 2, 0, 27), (43, 0, 0, 28), (2, 0, -1, 29), (33, 50, 1, 30), (5, 0, 0, 31), (37, 8, 0, 32), (5, 0, 0, 33), (37, 5, 0, 34), (3, 1, 0, 35), (2, 0, 1, 36), (10, 0, 0, 37), (5, 0, 0, 38), (37, 5, 0, 39), (35, 10, 1, 40), (3, 2, 0, 41), (1, 208, 5, 42), (5, 0, 0, 43), (37, 8, 0, 44), (37, 4, 2, 45), (3, 1, 0, 46), (43, 0, 0, 47), (32, 50, 1, 48), (3, 2, 0, 49), (0, 1, 0, 50), (9, 2, 1, 51), (31, 15, 0, 52), (2, 0, -2, 53), (0, 1, 0, 54)]
/-- EventLedger.without (II)I -/
def ab_c20 : List ab_O := [(5, 0, 0, 1), (37, 5, 0, 2), (3, 1, 0, 3), (1, 169, 2, 4), (32, 9, 0, 5), (5, 0, 0, 6), (3, 2, 0, 7), (1, 37, 2, 8), (32, 11, 1, 9), (2, 0, -2147483648, 10), (0, 1, 0, 11), (5, 0, 0, 12), (37, 8, 0, 13), (5, 0, 0, 14), (37, 5, 0, 15), (5, 0, 0, 16), (37, 5, 0, 17), (35, 10, 1, 18), (5, 0, 0, 19), (37, 5, 0, 20), (35, 10, 1, 21), (3, 1, 0, 22), (1, 208, 5, 23), (5, 0, 0, 24), (37, 8, 0, 25), (37, 0, 2, 26), (3, 2, 0, 27), (43, 0, 0, 28), (0, 1, 0, 29)]
/-- EventLedger.firstBelow (I)I -/
def ab_c21 : List ab_O := [(5, 0, 0, 1), (3, 1, 0, 2), (1, 37, 2, 3), (32, 6, 1, 4), (2, 0, -1, 5), (0, 1, 0, 6), (5, 0, 0, 7), (37, 8, 0, 8), (5, 0, 0, 9), (37, 5, 0, 10), (35, 10, 1, 11), (2, 0, -1, 12), (1, 207, 3, 13), (2, 0, 0, 14), (6, 2, 0, 15), (3, 2, 0, 16), (5, 0, 0, 17), (37, 5, 0, 18), (35, 10, 1, 19), (33, 36, 3, 20), (5, 0, 0, 21), (37, 8, 0, 22), (5, 0, 0, 23), (37, 5, 0, 24), (3, 2, 0, 25), (1, 209, 3, 26), (5, 0, 0, 27), (37, 8, 0, 28), (37, 0, 2, 29), (3, 1, 0, 30), (43, 0, 0, 31), (32, 34, 3, 32), (3, 2, 0, 33), (0, 1, 0, 34), (9, 2, 1, 35), (31, 15, 0, 36), (2, 0, -2, 37), (0, 1, 0, 38)]
/-- EventLedger.peak (II)I -/
def ab_c22 : List ab_O := [(5, 0, 0, 1), (3, 1, 0, 2), (1, 37, 2, 3), (32, 9, 0, 4), (3, 2, 0, 5), (32, 9, 2, 6), (3, 2, 0, 7), (2, 0, 1, 8), (33, 11, 5, 9), (2, 0, -2147483648, 10), (0, 1, 0, 11), (2, 0, 0, 12), (6, 3, 0, 13), (2, 0, -2, 14), (6, 4, 0, 15), (5, 0, 0, 16), (37, 8, 0, 17), (5, 0, 0, 18), (37, 5, 0, 19), (35, 10, 1, 20), (2, 0, -1, 21), (1, 207, 3, 22), (2, 0, 0, 23), (6, 5, 0, 24), (3, 5, 0, 25), (5, 0, 0, 26), (37, 5, 0, 27), (35, 10, 1, 28), (33, 52, 3, 29), (5, 0, 0, 30), (37, 8, 0, 31), (5, 0, 0, 32), (37, 5, 0, 33), (3, 5, 0, 34), (1, 209, 3, 35), (5, 0, 0, 36), (37, 8, 0, 37), (37, 0, 2, 38), (3, 1, 0, 39), (43, 0, 0, 40), (3, 3, 0, 41), (33, 50, 5, 42), (5, 0, 0, 43), (37, 8, 0, 44), (37, 0, 2, 45), (3, 1, 0, 46), (43, 0, 0, 47), (6, 3, 0, 48), (3, 5, 0, 49), (6, 4, 0, 50), (9, 5, 1, 51), (31, 24, 0, 52), (3, 2, 0, 53), (32, 56, 1, 54), (3, 3, 0, 55), (31, 57, 0, 56), (3, 4, 0, 57), (0, 1, 0, 58)]
/-- EventLedger.touches (I)I -/
def ab_c23 : List ab_O := [(5, 0, 0, 1), (37, 5, 0, 2), (3, 1, 0, 3), (1, 169, 2, 4), (32, 7, 1, 5), (2, 0, -1, 6), (0, 1, 0, 7), (5, 0, 0, 8), (37, 8, 0, 9), (5, 0, 0, 10), (37, 5, 0, 11), (5, 0, 0, 12), (37, 5, 0, 13), (35, 10, 1, 14), (5, 0, 0, 15), (37, 5, 0, 16), (35, 10, 1, 17), (3, 1, 0, 18), (1, 208, 5, 19), (2, 0, 0, 20), (6, 2, 0, 21), (2, 0, 0, 22), (6, 3, 0, 23), (3, 3, 0, 24), (5, 0, 0, 25), (37, 5, 0, 26), (35, 10, 1, 27), (33, 45, 3, 28), (3, 3, 0, 29), (3, 1, 0, 30), (33, 43, 0, 31), (5, 0, 0, 32), (37, 8, 0, 33), (37, 4, 2, 34), (3, 3, 0, 35), (43, 0, 0, 36), (5, 0, 0, 37), (37, 7, 0, 38), (37, 4, 2, 39), (3, 3, 0, 40), (43, 0, 0, 41), (33, 43, 0, 42), (9, 2, 1, 43), (9, 3, 1, 44), (31, 23, 0, 45), (3, 2, 0, 46), (0, 1, 0, 47)]
/-- EventLedger.ifPlain (II)I -/
def ab_c24 : List ab_O := [(3, 1, 0, 1), (32, 11, 2, 2), (3, 1, 0, 3), (2, 0, 7, 4), (33, 11, 3, 5), (3, 2, 0, 6), (2, 0, 1, 7), (33, 11, 2, 8), (3, 2, 0, 9), (2, 0, 3, 10), (33, 13, 2, 11), (2, 0, -1, 12), (0, 1, 0, 13), (5, 0, 0, 14), (37, 6, 0, 15), (5, 0, 0, 16), (37, 5, 0, 17), (1, 178, 2, 18), (2, 0, 0, 19), (6, 3, 0, 20), (3, 3, 0, 21), (5, 0, 0, 22), (37, 6, 0, 23), (35, 10, 1, 24), (33, 35, 3, 25), (5, 0, 0, 26), (37, 3, 0, 27), (5, 0, 0, 28), (37, 6, 0, 29), (3, 3, 0, 30), (3, 1, 0, 31), (3, 2, 0, 32), (1, 236, 5, 33), (9, 3, 1, 34), (31, 20, 0, 35), (5, 0, 0, 36), (37, 8, 0, 37), (5, 0, 0, 38), (37, 6, 0, 39), (5, 0, 0, 40), (37, 6, 0, 41), (35, 10, 1, 42), (5, 0, 0, 43), (37, 6, 0, 44), (35, 10, 1, 45), (2, 0, -1, 46), (1, 208, 5, 47), (5, 0, 0, 48), (37, 8, 0, 49), (2, 0, 0, 50), (5, 0, 0, 51), (37, 6, 0, 52), (35, 10, 1, 53), (1, 215, 3, 54), (0, 1, 0, 55)]
/-- EventLedger.resnap (II)I -/
def ab_c25 : List ab_O := [(3, 1, 0, 1), (2, 0, 1, 2), (33, 11, 2, 3), (3, 1, 0, 4), (2, 0, 999, 5), (33, 11, 4, 6), (3, 2, 0, 7), (32, 11, 2, 8), (3, 2, 0, 9), (2, 0, 6, 10), (33, 13, 5, 11), (2, 0, -1, 12), (0, 1, 0, 13), (5, 0, 0, 14), (1, 55, 1, 15), (5, 0, 0, 16), (37, 9, 0, 17), (3, 1, 0, 18), (38, 2, 3, 19), (5, 0, 0, 20), (37, 9, 0, 21), (3, 2, 0, 22), (38, 3, 3, 23), (5, 0, 0, 24), (1, 45, 1, 25), (5, 0, 0, 26), (37, 9, 0, 27), (35, 1, 3, 28), (0, 1, 0, 29)]
/-- EventLedger.see (II)I -/
def ab_c26 : List ab_O := [(5, 0, 0, 1), (3, 1, 0, 2), (1, 38, 2, 3), (32, 10, 0, 4), (3, 2, 0, 5), (2, 0, 1, 6), (33, 10, 2, 7), (3, 2, 0, 8), (2, 0, 120, 9), (33, 12, 5, 10), (2, 0, -1, 11), (0, 1, 0, 12), (5, 0, 0, 13), (37, 5, 0, 14), (35, 10, 1, 15), (5, 0, 0, 16), (37, 11, 0, 17), (37, 0, 4, 18), (3, 1, 0, 19), (43, 0, 0, 20), (11, 0, 0, 21), (6, 3, 0, 22), (3, 3, 0, 23), (32, 26, 4, 24), (2, 0, -2, 25), (0, 1, 0, 26), (5, 0, 0, 27), (1, 55, 1, 28), (3, 2, 0, 29), (3, 3, 0, 30), (56, 0, 0, 31), (6, 4, 0, 32), (2, 0, 0, 33), (6, 5, 0, 34), (3, 5, 0, 35), (3, 4, 0, 36), (33, 42, 3, 37), (5, 0, 0, 38), (3, 1, 0, 39), (1, 47, 2, 40), (9, 5, 1, 41), (31, 34, 0, 42), (3, 4, 0, 43), (0, 1, 0, 44)]
/-- EventLedger.rewind (I)I -/
def ab_c27 : List ab_O := [(5, 0, 0, 1), (3, 1, 0, 2), (1, 38, 2, 3), (32, 6, 1, 4), (2, 0, -1, 5), (0, 1, 0, 6), (5, 0, 0, 7), (1, 55, 1, 8), (5, 0, 0, 9), (37, 11, 0, 10), (37, 0, 4, 11), (3, 1, 0, 12), (43, 0, 0, 13), (6, 2, 0, 14), (5, 0, 0, 15), (37, 11, 0, 16), (3, 1, 0, 17), (1, 220, 2, 18), (3, 2, 0, 19), (0, 1, 0, 20)]
/-- EventLedger.tally (II)I -/
def ab_c28 : List ab_O := [(5, 0, 0, 1), (3, 1, 0, 2), (1, 38, 2, 3), (32, 6, 1, 4), (2, 0, -2147483648, 5), (0, 1, 0, 6), (3, 2, 0, 7), (34, 1, 0, 8), (5, 0, 0, 9), (37, 11, 0, 10), (37, 0, 4, 11), (3, 1, 0, 12), (43, 0, 0, 13), (0, 1, 0, 14), (5, 0, 0, 15), (37, 5, 0, 16), (35, 10, 1, 17), (5, 0, 0, 18), (37, 11, 0, 19), (37, 0, 4, 20), (3, 1, 0, 21), (43, 0, 0, 22), (11, 0, 0, 23), (0, 1, 0, 24), (5, 0, 0, 25), (37, 11, 0, 26), (3, 1, 0, 27), (1, 224, 2, 28), (0, 1, 0, 29), (5, 0, 0, 30), (37, 3, 0, 31), (37, 3, 6, 32), (3, 1, 0, 33), (43, 0, 0, 34), (0, 1, 0, 35), (5, 0, 0, 36), (37, 3, 0, 37), (37, 4, 6, 38), (3, 1, 0, 39), (43, 0, 0, 40), (0, 1, 0, 41), (5, 0, 0, 42), (3, 1, 0, 43), (2, 0, -1, 44), (1, 50, 3, 45), (0, 1, 0, 46), (5, 0, 0, 47), (3, 1, 0, 48), (1, 51, 2, 49), (5, 0, 0, 50), (3, 1, 0, 51), (2, 0, -1, 52), (1, 50, 3, 53), (11, 0, 0, 54), (0, 1, 0, 55), (2, 0, -2147483648, 56), (0, 1, 0, 57)]
/-- EventLedger.sum (II)I -/
def ab_c29 : List ab_O := [(5, 0, 0, 1), (3, 1, 0, 2), (1, 38, 2, 3), (32, 13, 0, 4), (5, 0, 0, 5), (3, 2, 0, 6), (1, 37, 2, 7), (32, 13, 0, 8), (5, 0, 0, 9), (3, 1, 0, 10), (3, 2, 0, 11), (1, 50, 3, 12), (31, 14, 0, 13), (2, 0, -2147483648, 14), (0, 1, 0, 15)]
/-- EventLedger.chance (III)I -/
def ab_c30 : List ab_O := [(3, 3, 0, 1), (2, 0, 1, 2), (33, 5, 1, 3), (2, 0, -2147483648, 4), (31, 6, 0, 5), (2, 0, -1, 6), (6, 4, 0, 7), (3, 1, 0, 8), (2, 0, -1, 9), (33, 21, 2, 10), (3, 2, 0, 11), (2, 0, 1, 12), (33, 21, 2, 13), (3, 2, 0, 14), (2, 0, 60, 15), (33, 21, 4, 16), (3, 3, 0, 17), (32, 21, 2, 18), (3, 3, 0, 19), (2, 0, 2, 20), (33, 23, 5, 21), (3, 4, 0, 22), (0, 1, 0, 23), (5, 0, 0, 24), (37, 3, 0, 25), (35, 1, 6, 26), (32, 34, 0, 27), (5, 0, 0, 28), (37, 5, 0, 29), (35, 10, 1, 30), (3, 2, 0, 31), (10, 0, 0, 32), (2, 0, 120, 33), (33, 36, 5, 34), (3, 4, 0, 35), (0, 1, 0, 36), (5, 0, 0, 37), (37, 6, 0, 38), (5, 0, 0, 39), (37, 5, 0, 40), (1, 178, 2, 41), (5, 0, 0, 42), (3, 1, 0, 43), (2, 0, -1, 44), (33, 49, 1, 45), (5, 0, 0, 46), (37, 3, 0, 47), (35, 12, 6, 48), (31, 50, 0, 49), (3, 1, 0, 50), (3, 2, 0, 51), (1, 52, 3, 52), (3, 3, 0, 53), (2, 0, 2, 54), (33, 76, 1, 55), (5, 0, 0, 56), (37, 10, 0, 57), (5, 0, 0, 58), (37, 9, 0, 59), (35, 2, 3, 60), (38, 2, 3, 61), (5, 0, 0, 62), (37, 10, 0, 63), (5, 0, 0, 64), (37, 9, 0, 65), (35, 3, 3, 66), (38, 3, 3, 67), (5, 0, 0, 68), (37, 10, 0, 69), (5, 0, 0, 70), (37, 6, 0, 71), (5, 0, 0, 72), (37, 5, 0, 73), (35, 10, 1, 74), (1, 200, 3, 75), (0, 1, 0, 76), (5, 0, 0, 77), (37, 8, 0, 78), (5, 0, 0, 79), (37, 6, 0, 80), (5, 0, 0, 81), (37, 6, 0, 82), (35, 10, 1, 83), (5, 0, 0, 84), (37, 6, 0, 85), (35, 10, 1, 86), (2, 0, -1, 87), (1, 208, 5, 88), (3, 3, 0, 89), (32, 100, 1, 90), (5, 0, 0, 91), (37, 8, 0, 92), (5, 0, 0, 93), (37, 5, 0, 94), (35, 10, 1, 95), (5, 0, 0, 96), (37, 6, 0, 97), (35, 10, 1, 98), (1, 215, 3, 99), (31, 103, 0, 100), (5, 0, 0, 101), (37, 8, 0, 102), (1, 217, 1, 103), (0, 1, 0, 104)]
/-- EventLedger.undo ()I -/
def ab_c31 : List ab_O := [(5, 0, 0, 1), (35, 14, 0, 2), (32, 5, 4, 3), (2, 0, -1, 4), (0, 1, 0, 5), (5, 0, 0, 6), (28, 0, 0, 7), (35, 14, 0, 8), (2, 0, 1, 9), (11, 0, 0, 10), (38, 14, 0, 11), (5, 0, 0, 12), (37, 13, 0, 13), (5, 0, 0, 14), (35, 14, 0, 15), (47, 0, 0, 16), (8, 1, 0, 17), (5, 0, 0, 18), (37, 5, 0, 19), (5, 1, 0, 20), (35, 0, 5, 21), (1, 173, 2, 22), (5, 0, 0, 23), (5, 1, 0, 24), (1, 57, 2, 25), (5, 0, 0, 26), (35, 14, 0, 27), (0, 1, 0, 28)]
/-- EventLedger.keep ()I -/
def ab_c32 : List ab_O := [(5, 0, 0, 1), (37, 15, 0, 2), (5, 0, 0, 3), (37, 5, 0, 4), (1, 178, 2, 5), (5, 0, 0, 6), (5, 0, 0, 7), (37, 16, 0, 8), (1, 56, 2, 9), (5, 0, 0, 10), (2, 0, 1, 11), (39, 17, 0, 12), (5, 0, 0, 13), (37, 5, 0, 14), (35, 10, 1, 15), (0, 1, 0, 16)]
/-- EventLedger.back ()I -/
def ab_c33 : List ab_O := [(5, 0, 0, 1), (35, 17, 0, 2), (32, 5, 1, 3), (2, 0, -1, 4), (0, 1, 0, 5), (5, 0, 0, 6), (37, 5, 0, 7), (5, 0, 0, 8), (37, 15, 0, 9), (1, 178, 2, 10), (5, 0, 0, 11), (5, 0, 0, 12), (37, 16, 0, 13), (1, 57, 2, 14), (5, 0, 0, 15), (2, 0, 0, 16), (38, 14, 0, 17), (5, 0, 0, 18), (37, 5, 0, 19), (35, 10, 1, 20), (0, 1, 0, 21)]
/-- EventLedger.count (I)I -/
def ab_c34 : List ab_O := [(3, 1, 0, 1), (34, 2, 0, 2), (5, 0, 0, 3), (37, 3, 0, 4), (35, 1, 6, 5), (0, 1, 0, 6), (5, 0, 0, 7), (37, 5, 0, 8), (35, 10, 1, 9), (0, 1, 0, 10), (5, 0, 0, 11), (37, 3, 0, 12), (35, 5, 6, 13), (0, 1, 0, 14), (5, 0, 0, 15), (37, 9, 0, 16), (35, 1, 3, 17), (0, 1, 0, 18), (5, 0, 0, 19), (37, 7, 0, 20), (2, 0, 0, 21), (5, 0, 0, 22), (37, 5, 0, 23), (35, 10, 1, 24), (1, 215, 3, 25), (0, 1, 0, 26), (5, 0, 0, 27), (37, 5, 0, 28), (1, 177, 1, 29), (0, 1, 0, 30), (5, 0, 0, 31), (37, 5, 0, 32), (1, 170, 1, 33), (0, 1, 0, 34), (5, 0, 0, 35), (37, 7, 0, 36), (1, 216, 1, 37), (0, 1, 0, 38), (5, 0, 0, 39), (37, 5, 0, 40), (2, 0, 0, 41), (5, 0, 0, 42), (37, 5, 0, 43), (35, 10, 1, 44), (1, 175, 3, 45), (0, 1, 0, 46), (5, 0, 0, 47), (35, 14, 0, 48), (0, 1, 0, 49), (5, 0, 0, 50), (35, 1, 0, 51), (0, 1, 0, 52), (5, 0, 0, 53), (37, 9, 0, 54), (35, 2, 3, 55), (0, 1, 0, 56), (5, 0, 0, 57), (37, 9, 0, 58), (35, 3, 3, 59), (0, 1, 0, 60), (2, 0, -1, 61), (0, 1, 0, 62)]
/-- EventLedger.putBytes (I)V -/
def ab_c35 : List ab_O := [(2, 0, 24, 1), (6, 2, 0, 2), (3, 2, 0, 3), (32, 25, 2, 4), (5, 0, 0, 5), (35, 1, 0, 6), (2, 0, 900, 7), (33, 25, 3, 8), (5, 0, 0, 9), (37, 0, 0, 10), (5, 0, 0, 11), (35, 1, 0, 12), (3, 1, 0, 13), (3, 2, 0, 14), (18, 0, 0, 15), (21, 0, 0, 16), (49, 0, 0, 17), (5, 0, 0, 18), (28, 0, 0, 19), (35, 1, 0, 20), (2, 0, 1, 21), (10, 0, 0, 22), (38, 1, 0, 23), (9, 2, -8, 24), (31, 2, 0, 25), (0, 0, 0, 26)]
/-- EventLedger.takeOverSpares ()V -/
def ab_c36 : List ab_O := [(5, 0, 0, 1), (37, 4, 0, 2), (8, 1, 0, 3), (5, 0, 0, 4), (5, 0, 0, 5), (37, 3, 0, 6), (40, 4, 0, 7), (5, 0, 0, 8), (5, 1, 0, 9), (40, 3, 0, 10), (5, 0, 0, 11), (37, 6, 0, 12), (8, 2, 0, 13), (5, 0, 0, 14), (5, 0, 0, 15), (37, 5, 0, 16), (40, 6, 0, 17), (5, 0, 0, 18), (5, 2, 0, 19), (40, 5, 0, 20), (2, 0, 0, 21), (6, 3, 0, 22), (3, 3, 0, 23), (5, 0, 0, 24), (37, 5, 0, 25), (35, 10, 1, 26), (33, 37, 3, 27), (5, 0, 0, 28), (37, 3, 0, 29), (5, 0, 0, 30), (37, 5, 0, 31), (3, 3, 0, 32), (2, 0, -1, 33), (2, 0, -1, 34), (1, 236, 5, 35), (9, 3, 1, 36), (31, 22, 0, 37), (0, 0, 0, 38)]
/-- EventLedger.isAccount (I)Z -/
def ab_c37 : List ab_O := [(3, 1, 0, 1), (32, 9, 2, 2), (3, 1, 0, 3), (5, 0, 0, 4), (37, 3, 0, 5), (35, 1, 6, 6), (33, 9, 3, 7), (2, 0, 1, 8), (31, 10, 0, 9), (2, 0, 0, 10), (0, 2, 0, 11)]
/-- EventLedger.isTally (I)Z -/
def ab_c38 : List ab_O := [(3, 1, 0, 1), (32, 9, 2, 2), (3, 1, 0, 3), (5, 0, 0, 4), (37, 3, 0, 5), (35, 5, 6, 6), (33, 9, 3, 7), (2, 0, 1, 8), (31, 10, 0, 9), (2, 0, 0, 10), (0, 2, 0, 11)]
/-- EventLedger.isTime (I)Z -/
def ab_c39 : List ab_O := [(3, 0, 0, 1), (32, 7, 2, 2), (3, 0, 0, 3), (2, 0, 9999, 4), (33, 7, 4, 5), (2, 0, 1, 6), (31, 8, 0, 7), (2, 0, 0, 8), (0, 2, 0, 9)]
/-- EventLedger.isNumber (I)Z -/
def ab_c40 : List ab_O := [(3, 0, 0, 1), (32, 7, 2, 2), (3, 0, 0, 3), (2, 0, 99999, 4), (33, 7, 4, 5), (2, 0, 1, 6), (31, 8, 0, 7), (2, 0, 0, 8), (0, 2, 0, 9)]
/-- EventLedger.canBe (III)Z -/
def ab_c41 : List ab_O := [(3, 1, 0, 1), (32, 9, 2, 2), (3, 1, 0, 3), (2, 0, 7, 4), (33, 9, 3, 5), (5, 0, 0, 6), (3, 2, 0, 7), (1, 37, 2, 8), (32, 11, 1, 9), (2, 0, 0, 10), (0, 2, 0, 11), (3, 1, 0, 12), (2, 0, 6, 13), (33, 21, 1, 14), (5, 0, 0, 15), (3, 3, 0, 16), (1, 37, 2, 17), (32, 23, 0, 18), (3, 3, 0, 19), (3, 2, 0, 20), (33, 23, 0, 21), (2, 0, 1, 22), (31, 24, 0, 23), (2, 0, 0, 24), (0, 2, 0, 25)]
/-- EventLedger.fillRow (II)V -/
def ab_c42 : List ab_O := [(5, 0, 0, 1), (37, 12, 0, 2), (2, 0, 0, 3), (3, 1, 0, 4), (48, 0, 0, 5), (5, 0, 0, 6), (37, 12, 0, 7), (2, 0, 1, 8), (3, 2, 0, 9), (48, 0, 0, 10), (5, 0, 0, 11), (37, 12, 0, 12), (2, 0, 2, 13), (2, 0, 0, 14), (48, 0, 0, 15), (0, 0, 0, 16)]
/-- EventLedger.refusalAt (I)I -/
def ab_c43 : List ab_O := [(3, 1, 0, 1), (5, 0, 0, 2), (37, 5, 0, 3), (1, 170, 1, 4), (33, 7, 3, 5), (2, 0, -2, 6), (0, 1, 0, 7), (5, 0, 0, 8), (37, 5, 0, 9), (35, 10, 1, 10), (2, 0, 120, 11), (33, 14, 2, 12), (2, 0, -3, 13), (31, 15, 0, 14), (2, 0, 0, 15), (0, 1, 0, 16)]
/-- EventLedger.comes (IIIII)I -/
def ab_c44 : List ab_O := [(5, 0, 0, 1), (3, 4, 0, 2), (1, 43, 2, 3), (6, 6, 0, 4), (3, 6, 0, 5), (32, 8, 0, 6), (3, 6, 0, 7), (0, 1, 0, 8), (5, 0, 0, 9), (1, 55, 1, 10), (5, 0, 0, 11), (37, 5, 0, 12), (35, 10, 1, 13), (6, 7, 0, 14), (5, 0, 0, 15), (37, 5, 0, 16), (3, 1, 0, 17), (3, 2, 0, 18), (3, 3, 0, 19), (3, 4, 0, 20), (3, 5, 0, 21), (5, 0, 0, 22), (37, 12, 0, 23), (1, 171, 7, 24), (5, 0, 0, 25), (37, 3, 0, 26), (5, 0, 0, 27), (37, 5, 0, 28), (3, 7, 0, 29), (2, 0, -1, 30), (2, 0, -1, 31), (1, 236, 5, 32), (5, 0, 0, 33), (1, 45, 1, 34), (3, 7, 0, 35), (0, 1, 0, 36)]
/-- EventLedger.rebuild ()V -/
def ab_c45 : List ab_O := [(5, 0, 0, 1), (37, 9, 0, 2), (5, 0, 0, 3), (37, 5, 0, 4), (2, 0, 0, 5), (1, 200, 3, 6), (30, 0, 0, 7), (5, 0, 0, 8), (37, 7, 0, 9), (5, 0, 0, 10), (37, 5, 0, 11), (5, 0, 0, 12), (37, 5, 0, 13), (35, 10, 1, 14), (5, 0, 0, 15), (37, 5, 0, 16), (35, 10, 1, 17), (2, 0, -1, 18), (1, 208, 5, 19), (0, 0, 0, 20)]
/-- EventLedger.costOf (I)I -/
def ab_c46 : List ab_O := [(5, 0, 0, 1), (37, 5, 0, 2), (5, 0, 0, 3), (37, 9, 0, 4), (3, 1, 0, 5), (1, 204, 2, 6), (3, 1, 0, 7), (1, 175, 3, 8), (0, 1, 0, 9)]
/-- EventLedger.seeNext (I)V -/
def ab_c47 : List ab_O := [(5, 0, 0, 1), (37, 11, 0, 2), (37, 0, 4, 3), (3, 1, 0, 4), (43, 0, 0, 5), (6, 2, 0, 6), (5, 0, 0, 7), (37, 5, 0, 8), (3, 2, 0, 9), (1, 168, 2, 10), (32, 12, 1, 11), (0, 0, 0, 12), (5, 0, 0, 13), (37, 5, 0, 14), (37, 0, 1, 15), (3, 2, 0, 16), (43, 0, 0, 17), (2, 0, 7, 18), (33, 29, 1, 19), (5, 0, 0, 20), (37, 11, 0, 21), (3, 1, 0, 22), (5, 0, 0, 23), (37, 5, 0, 24), (37, 2, 1, 25), (3, 2, 0, 26), (43, 0, 0, 27), (1, 222, 3, 28), (31, 39, 0, 29), (5, 0, 0, 30), (3, 1, 0, 31), (3, 2, 0, 32), (1, 48, 3, 33), (32, 39, 0, 34), (5, 0, 0, 35), (37, 11, 0, 36), (3, 1, 0, 37), (3, 2, 0, 38), (1, 221, 3, 39), (5, 0, 0, 40), (37, 11, 0, 41), (37, 0, 4, 42), (3, 1, 0, 43), (3, 2, 0, 44), (2, 0, 1, 45), (10, 0, 0, 46), (48, 0, 0, 47), (0, 0, 0, 48)]
/-- EventLedger.countsNow (II)Z -/
def ab_c48 : List ab_O := [(5, 0, 0, 1), (37, 5, 0, 2), (37, 0, 1, 3), (3, 2, 0, 4), (43, 0, 0, 5), (5, 0, 0, 6), (37, 3, 0, 7), (37, 3, 6, 8), (3, 1, 0, 9), (43, 0, 0, 10), (33, 26, 1, 11), (5, 0, 0, 12), (37, 7, 0, 13), (37, 4, 2, 14), (3, 2, 0, 15), (43, 0, 0, 16), (32, 26, 1, 17), (5, 0, 0, 18), (37, 5, 0, 19), (37, 8, 1, 20), (3, 2, 0, 21), (43, 0, 0, 22), (2, 0, -1, 23), (33, 26, 1, 24), (2, 0, 1, 25), (31, 27, 0, 26), (2, 0, 0, 27), (0, 2, 0, 28)]
/-- EventLedger.countedField (II)I -/
def ab_c49 : List ab_O := [(5, 0, 0, 1), (37, 5, 0, 2), (37, 6, 1, 3), (2, 0, 3, 4), (3, 2, 0, 5), (12, 0, 0, 6), (5, 0, 0, 7), (37, 3, 0, 8), (37, 4, 6, 9), (3, 1, 0, 10), (43, 0, 0, 11), (10, 0, 0, 12), (2, 0, 1, 13), (11, 0, 0, 14), (43, 0, 0, 15), (0, 1, 0, 16)]
/-- EventLedger.sumCounted (II)I -/
def ab_c50 : List ab_O := [(2, 0, 0, 1), (6, 3, 0, 2), (2, 0, 0, 3), (6, 4, 0, 4), (3, 4, 0, 5), (5, 0, 0, 6), (37, 5, 0, 7), (35, 10, 1, 8), (33, 34, 3, 9), (5, 0, 0, 10), (37, 11, 0, 11), (3, 1, 0, 12), (3, 4, 0, 13), (1, 223, 3, 14), (32, 32, 0, 15), (3, 2, 0, 16), (2, 0, -1, 17), (33, 25, 0, 18), (5, 0, 0, 19), (37, 5, 0, 20), (37, 1, 1, 21), (3, 4, 0, 22), (43, 0, 0, 23), (3, 2, 0, 24), (33, 32, 1, 25), (3, 3, 0, 26), (5, 0, 0, 27), (3, 1, 0, 28), (3, 4, 0, 29), (1, 49, 3, 30), (10, 0, 0, 31), (6, 3, 0, 32), (9, 4, 1, 33), (31, 4, 0, 34), (3, 3, 0, 35), (0, 1, 0, 36)]
/-- EventLedger.sumAnew (I)I -/
def ab_c51 : List ab_O := [(2, 0, 0, 1), (6, 2, 0, 2), (2, 0, 0, 3), (6, 3, 0, 4), (3, 3, 0, 5), (5, 0, 0, 6), (37, 5, 0, 7), (35, 10, 1, 8), (33, 23, 3, 9), (5, 0, 0, 10), (3, 1, 0, 11), (3, 3, 0, 12), (1, 48, 3, 13), (32, 21, 0, 14), (3, 2, 0, 15), (5, 0, 0, 16), (3, 1, 0, 17), (3, 3, 0, 18), (1, 49, 3, 19), (10, 0, 0, 20), (6, 2, 0, 21), (9, 3, 1, 22), (31, 4, 0, 23), (3, 2, 0, 24), (0, 1, 0, 25)]
/-- EventLedger.addByChance (II)V -/
def ab_c52 : List ab_O := [(2, 0, 0, 1), (5, 0, 0, 2), (37, 5, 0, 3), (1, 170, 1, 4), (55, 0, 0, 5), (6, 3, 0, 6), (3, 1, 0, 7), (6, 4, 0, 8), (2, 0, 0, 9), (6, 5, 0, 10), (3, 5, 0, 11), (3, 2, 0, 12), (33, 62, 3, 13), (3, 4, 0, 14), (1, 53, 1, 15), (6, 4, 0, 16), (3, 4, 0, 17), (2, 0, 5, 18), (1, 54, 2, 19), (6, 6, 0, 20), (3, 4, 0, 21), (1, 53, 1, 22), (6, 4, 0, 23), (3, 4, 0, 24), (5, 0, 0, 25), (37, 3, 0, 26), (35, 1, 6, 27), (1, 54, 2, 28), (6, 7, 0, 29), (3, 4, 0, 30), (1, 53, 1, 31), (6, 4, 0, 32), (5, 0, 0, 33), (3, 4, 0, 34), (2, 0, 1000, 35), (1, 54, 2, 36), (2, 0, 0, 37), (1, 42, 3, 38), (5, 0, 0, 39), (37, 6, 0, 40), (35, 10, 1, 41), (6, 8, 0, 42), (5, 0, 0, 43), (37, 6, 0, 44), (3, 6, 0, 45), (3, 7, 0, 46), (2, 0, -1, 47), (3, 3, 0, 48), (2, 0, 3, 49), (5, 0, 0, 50), (37, 12, 0, 51), (1, 171, 7, 52), (5, 0, 0, 53), (37, 3, 0, 54), (5, 0, 0, 55), (37, 6, 0, 56), (3, 8, 0, 57), (2, 0, -1, 58), (2, 0, -1, 59), (1, 236, 5, 60), (9, 5, 1, 61), (31, 10, 0, 62), (0, 0, 0, 63)]
/-- EventLedger.nextNumber (I)I -/
def ab_c53 : List ab_O := [(3, 0, 0, 1), (2, 0, 1103515245, 2), (12, 0, 0, 3), (2, 0, 12345, 4), (10, 0, 0, 5), (2, 0, 2147483647, 6), (13, 0, 0, 7), (0, 1, 0, 8)]
/-- EventLedger.drawn (II)I -/
def ab_c54 : List ab_O := [(3, 1, 0, 1), (32, 8, 5, 2), (3, 0, 0, 3), (2, 0, 16, 4), (17, 0, 0, 5), (3, 1, 0, 6), (19, 0, 0, 7), (31, 9, 0, 8), (2, 0, 0, 9), (0, 1, 0, 10)]
/-- EventLedger.mark ()V -/
def ab_c55 : List ab_O := [(5, 0, 0, 1), (35, 14, 0, 2), (2, 0, 20, 3), (33, 34, 2, 4), (5, 0, 0, 5), (37, 13, 0, 6), (2, 0, 0, 7), (47, 0, 0, 8), (8, 1, 0, 9), (2, 0, 1, 10), (6, 2, 0, 11), (3, 2, 0, 12), (2, 0, 20, 13), (33, 26, 3, 14), (5, 0, 0, 15), (37, 13, 0, 16), (3, 2, 0, 17), (2, 0, 1, 18), (11, 0, 0, 19), (5, 0, 0, 20), (37, 13, 0, 21), (3, 2, 0, 22), (47, 0, 0, 23), (60, 0, 0, 24), (9, 2, 1, 25), (31, 11, 0, 26), (5, 0, 0, 27), (37, 13, 0, 28), (2, 0, 19, 29), (5, 1, 0, 30), (60, 0, 0, 31), (5, 0, 0, 32), (2, 0, 19, 33), (38, 14, 0, 34), (5, 0, 0, 35), (5, 0, 0, 36), (37, 13, 0, 37), (5, 0, 0, 38), (35, 14, 0, 39), (47, 0, 0, 40), (1, 56, 2, 41), (5, 0, 0, 42), (28, 0, 0, 43), (35, 14, 0, 44), (2, 0, 1, 45), (10, 0, 0, 46), (38, 14, 0, 47), (0, 0, 0, 48)]
/-- EventLedger.fillMark (LEventLedger$Mark;)V -/
def ab_c56 : List ab_O := [(5, 1, 0, 1), (5, 0, 0, 2), (37, 5, 0, 3), (35, 10, 1, 4), (38, 0, 5, 5), (5, 1, 0, 6), (5, 0, 0, 7), (37, 9, 0, 8), (35, 2, 3, 9), (38, 1, 5, 10), (5, 1, 0, 11), (5, 0, 0, 12), (37, 9, 0, 13), (35, 3, 3, 14), (38, 2, 5, 15), (5, 1, 0, 16), (37, 3, 5, 17), (5, 0, 0, 18), (37, 11, 0, 19), (1, 225, 2, 20), (0, 0, 0, 21)]
/-- EventLedger.restore (LEventLedger$Mark;)V -/
def ab_c57 : List ab_O := [(5, 0, 0, 1), (37, 9, 0, 2), (5, 1, 0, 3), (35, 1, 5, 4), (38, 2, 3, 5), (5, 0, 0, 6), (37, 9, 0, 7), (5, 1, 0, 8), (35, 2, 5, 9), (38, 3, 3, 10), (5, 0, 0, 11), (37, 11, 0, 12), (5, 1, 0, 13), (37, 3, 5, 14), (1, 225, 2, 15), (5, 0, 0, 16), (1, 45, 1, 17), (0, 0, 0, 18)]
/-- EventLedgerModel.<init> ()V -/
def ab_c58 : List ab_O := [(5, 0, 0, 1), (58, 0, 0, 2), (5, 0, 0, 3), (2, 0, 900, 4), (53, 0, 0, 5), (41, 1, 9, 6), (5, 0, 0, 7), (2, 0, 12, 8), (53, 0, 0, 9), (41, 3, 9, 10), (5, 0, 0, 11), (2, 0, 16, 12), (53, 0, 0, 13), (41, 4, 9, 14), (5, 0, 0, 15), (2, 0, 8, 16), (53, 0, 0, 17), (41, 5, 9, 18), (5, 0, 0, 19), (2, 0, 8, 20), (53, 0, 0, 21), (41, 6, 9, 22), (5, 0, 0, 23), (2, 0, 8, 24), (53, 0, 0, 25), (41, 7, 9, 26), (5, 0, 0, 27), (2, 0, 28, 28), (53, 0, 0, 29), (41, 8, 9, 30), (5, 0, 0, 31), (2, 0, 112, 32), (53, 0, 0, 33), (41, 9, 9, 34), (5, 0, 0, 35), (2, 0, 112, 36), (53, 0, 0, 37), (41, 10, 9, 38), (5, 0, 0, 39), (2, 0, 112, 40), (53, 0, 0, 41), (41, 11, 9, 42), (5, 0, 0, 43), (2, 0, 400, 44), (53, 0, 0, 45), (41, 12, 9, 46), (5, 0, 0, 47), (2, 0, 50, 48), (53, 0, 0, 49), (41, 13, 9, 50), (5, 0, 0, 51), (2, 0, -1, 52), (38, 25, 9, 53), (5, 0, 0, 54), (2, 0, 1607, 55), (53, 0, 0, 56), (41, 26, 9, 57), (5, 0, 0, 58), (2, 0, 1607, 59), (53, 0, 0, 60), (41, 27, 9, 61), (5, 0, 0, 62), (2, 0, 1607, 63), (53, 0, 0, 64), (41, 28, 9, 65), (5, 0, 0, 66), (2, 0, 32140, 67), (53, 0, 0, 68), (41, 29, 9, 69), (5, 0, 0, 70), (2, 0, 3, 71), (53, 0, 0, 72), (41, 33, 9, 73), (5, 0, 0, 74), (2, 0, -1, 75), (38, 34, 9, 76), (5, 0, 0, 77), (2, 0, 8, 78), (53, 0, 0, 79), (41, 36, 9, 80), (5, 0, 0, 81), (2, 0, 8, 82), (53, 0, 0, 83), (41, 37, 9, 84), (5, 0, 0, 85), (2, 0, 8, 86), (53, 0, 0, 87), (41, 38, 9, 88), (5, 0, 0, 89), (2, 0, 8, 90), (53, 2, 0, 91), (41, 39, 9, 92), (5, 0, 0, 93), (2, 0, 120, 94), (53, 0, 0, 95), (41, 40, 9, 96), (5, 0, 0, 97), (2, 0, 120, 98), (53, 0, 0, 99), (41, 44, 9, 100), (5, 0, 0, 101), (1, 86, 1, 102), (5, 0, 0, 103), (1, 88, 1, 104), (5, 0, 0, 105), (1, 96, 1, 106), (0, 0, 0, 107)]
/-- EventLedgerModel.thrown ()I -/
def ab_c59 : List ab_O := [(5, 0, 0, 1), (35, 0, 9, 2), (0, 1, 0, 3)]
/-- EventLedgerModel.feed (IIIII)I -/
def ab_c60 : List ab_O := [(5, 0, 0, 1), (2, 0, 0, 2), (38, 0, 9, 3), (5, 0, 0, 4), (35, 2, 9, 5), (2, 0, 880, 6), (33, 9, 5, 7), (2, 0, -1, 8), (0, 1, 0, 9), (2, 0, 0, 10), (6, 6, 0, 11), (3, 6, 0, 12), (2, 0, 20, 13), (33, 56, 3, 14), (3, 6, 0, 15), (2, 0, 4, 16), (33, 19, 3, 17), (3, 1, 0, 18), (31, 35, 0, 19), (3, 6, 0, 20), (2, 0, 8, 21), (33, 24, 3, 22), (3, 2, 0, 23), (31, 35, 0, 24), (3, 6, 0, 25), (2, 0, 12, 26), (33, 29, 3, 27), (3, 3, 0, 28), (31, 35, 0, 29), (3, 6, 0, 30), (2, 0, 16, 31), (33, 34, 3, 32), (3, 4, 0, 33), (31, 35, 0, 34), (3, 5, 0, 35), (6, 7, 0, 36), (5, 0, 0, 37), (37, 1, 9, 38), (5, 0, 0, 39), (35, 2, 9, 40), (3, 6, 0, 41), (10, 0, 0, 42), (3, 7, 0, 43), (2, 0, 24, 44), (2, 0, 8, 45), (3, 6, 0, 46), (2, 0, 4, 47), (19, 0, 0, 48), (12, 0, 0, 49), (11, 0, 0, 50), (17, 0, 0, 51), (2, 0, 255, 52), (13, 0, 0, 53), (48, 0, 0, 54), (9, 6, 1, 55), (31, 11, 0, 56), (5, 0, 0, 57), (28, 0, 0, 58), (35, 2, 9, 59), (2, 0, 20, 60), (10, 0, 0, 61), (38, 2, 9, 62), (5, 0, 0, 63), (35, 2, 9, 64), (0, 1, 0, 65)]
/-- EventLedgerModel.here ()I -/
def ab_c61 : List ab_O := [(5, 0, 0, 1), (35, 18, 9, 2), (5, 0, 0, 3), (35, 17, 9, 4), (33, 11, 3, 5), (5, 0, 0, 6), (37, 1, 9, 7), (5, 0, 0, 8), (35, 18, 9, 9), (43, 0, 0, 10), (31, 12, 0, 11), (2, 0, -1, 12), (0, 1, 0, 13)]
/-- EventLedgerModel.isSmall (I)Z -/
def ab_c62 : List ab_O := [(3, 0, 0, 1), (2, 0, 97, 2), (33, 8, 2, 3), (3, 0, 0, 4), (2, 0, 122, 5), (33, 8, 4, 6), (2, 0, 1, 7), (31, 9, 0, 8), (2, 0, 0, 9), (0, 2, 0, 10)]
/-- EventLedgerModel.isDigit (I)Z -/
def ab_c63 : List ab_O := [(3, 0, 0, 1), (2, 0, 48, 2), (33, 8, 2, 3), (3, 0, 0, 4), (2, 0, 57, 5), (33, 8, 4, 6), (2, 0, 1, 7), (31, 9, 0, 8), (2, 0, 0, 9), (0, 2, 0, 10)]
/-- EventLedgerModel.token ()V -/
def ab_c64 : List ab_O := [(5, 0, 0, 1), (1, 61, 1, 2), (2, 0, 10, 3), (33, 8, 0, 4), (5, 0, 0, 5), (1, 61, 1, 6), (2, 0, 32, 7), (33, 15, 1, 8), (5, 0, 0, 9), (28, 0, 0, 10), (35, 18, 9, 11), (2, 0, 1, 12), (10, 0, 0, 13), (38, 18, 9, 14), (31, 0, 0, 15), (5, 0, 0, 16), (5, 0, 0, 17), (35, 18, 9, 18), (38, 19, 9, 19), (5, 0, 0, 20), (1, 61, 1, 21), (6, 1, 0, 22), (3, 1, 0, 23), (2, 0, -1, 24), (33, 29, 1, 25), (5, 0, 0, 26), (2, 0, 4, 27), (38, 20, 9, 28), (31, 124, 0, 29), (3, 1, 0, 30), (1, 62, 1, 31), (32, 72, 0, 32), (5, 0, 0, 33), (1, 61, 1, 34), (1, 62, 1, 35), (32, 43, 0, 36), (5, 0, 0, 37), (28, 0, 0, 38), (35, 18, 9, 39), (2, 0, 1, 40), (10, 0, 0, 41), (38, 18, 9, 42), (31, 32, 0, 43), (5, 0, 0, 44), (5, 0, 0, 45), (1, 65, 1, 46), (38, 21, 9, 47), (5, 0, 0, 48), (5, 0, 0, 49), (35, 21, 9, 50), (2, 0, -1, 51), (33, 54, 0, 52), (2, 0, 0, 53), (31, 64, 0, 54), (5, 0, 0, 55), (35, 18, 9, 56), (5, 0, 0, 57), (35, 19, 9, 58), (11, 0, 0, 59), (2, 0, 6, 60), (33, 63, 5, 61), (2, 0, 5, 62), (31, 64, 0, 63), (2, 0, 1, 64), (38, 20, 9, 65), (5, 0, 0, 66), (35, 20, 9, 67), (2, 0, 1, 68), (33, 124, 1, 69), (5, 0, 0, 70), (1, 66, 1, 71), (31, 124, 0, 72), (3, 1, 0, 73), (1, 63, 1, 74), (32, 110, 0, 75), (5, 0, 0, 76), (2, 0, 2, 77), (38, 20, 9, 78), (5, 0, 0, 79), (2, 0, 0, 80), (38, 21, 9, 81), (5, 0, 0, 82), (1, 61, 1, 83), (1, 63, 1, 84), (32, 124, 0, 85), (5, 0, 0, 86), (5, 0, 0, 87), (35, 21, 9, 88), (2, 0, 99999, 89), (33, 93, 5, 90), (5, 0, 0, 91), (35, 21, 9, 92), (31, 102, 0, 93), (2, 0, 10, 94), (5, 0, 0, 95), (35, 21, 9, 96), (12, 0, 0, 97), (5, 0, 0, 98), (1, 61, 1, 99), (10, 0, 0, 100), (2, 0, 48, 101), (11, 0, 0, 102), (38, 21, 9, 103), (5, 0, 0, 104), (28, 0, 0, 105), (35, 18, 9, 106), (2, 0, 1, 107), (10, 0, 0, 108), (38, 18, 9, 109), (31, 81, 0, 110), (5, 0, 0, 111), (3, 1, 0, 112), (2, 0, 59, 113), (33, 116, 1, 114), (2, 0, 3, 115), (31, 117, 0, 116), (2, 0, 5, 117), (38, 20, 9, 118), (5, 0, 0, 119), (28, 0, 0, 120), (35, 18, 9, 121), (2, 0, 1, 122), (10, 0, 0, 123), (38, 18, 9, 124), (0, 0, 0, 125)]
/-- EventLedgerModel.wordHere ()I -/
def ab_c65 : List ab_O := [(2, 0, 0, 1), (6, 1, 0, 2), (2, 0, 0, 3), (6, 2, 0, 4), (3, 2, 0, 5), (71, 0, 0, 6), (69, 0, 0, 7), (33, 65, 3, 8), (2, 0, 0, 9), (6, 3, 0, 10), (71, 0, 0, 11), (3, 2, 0, 12), (3, 3, 0, 13), (10, 0, 0, 14), (70, 0, 0, 15), (2, 0, 32, 16), (33, 39, 0, 17), (5, 0, 0, 18), (35, 19, 9, 19), (3, 3, 0, 20), (10, 0, 0, 21), (5, 0, 0, 22), (35, 18, 9, 23), (33, 39, 3, 24), (5, 0, 0, 25), (37, 1, 9, 26), (5, 0, 0, 27), (35, 19, 9, 28), (3, 3, 0, 29), (10, 0, 0, 30), (43, 0, 0, 31), (71, 0, 0, 32), (3, 2, 0, 33), (3, 3, 0, 34), (10, 0, 0, 35), (70, 0, 0, 36), (33, 39, 1, 37), (9, 3, 1, 38), (31, 10, 0, 39), (71, 0, 0, 40), (3, 2, 0, 41), (3, 3, 0, 42), (10, 0, 0, 43), (70, 0, 0, 44), (2, 0, 32, 45), (33, 55, 1, 46), (5, 0, 0, 47), (35, 19, 9, 48), (3, 3, 0, 49), (10, 0, 0, 50), (5, 0, 0, 51), (35, 18, 9, 52), (33, 55, 1, 53), (3, 1, 0, 54), (0, 1, 0, 55), (71, 0, 0, 56), (3, 2, 0, 57), (70, 0, 0, 58), (2, 0, 32, 59), (33, 62, 0, 60), (9, 2, 1, 61), (31, 55, 0, 62), (9, 2, 1, 63), (9, 1, 1, 64), (31, 4, 0, 65), (2, 0, -1, 66), (0, 1, 0, 67)]
/-- EventLedgerModel.nameHere ()V -/
def ab_c66 : List ab_O := [(5, 0, 0, 1), (2, 0, 0, 2), (38, 21, 9, 3), (2, 0, 0, 4), (6, 1, 0, 5), (3, 1, 0, 6), (2, 0, 6, 7), (33, 37, 3, 8), (5, 0, 0, 9), (5, 0, 0, 10), (35, 21, 9, 11), (2, 0, 5, 12), (16, 0, 0, 13), (5, 0, 0, 14), (35, 19, 9, 15), (3, 1, 0, 16), (10, 0, 0, 17), (5, 0, 0, 18), (35, 18, 9, 19), (33, 32, 3, 20), (5, 0, 0, 21), (37, 1, 9, 22), (5, 0, 0, 23), (35, 19, 9, 24), (3, 1, 0, 25), (10, 0, 0, 26), (43, 0, 0, 27), (2, 0, 97, 28), (11, 0, 0, 29), (2, 0, 1, 30), (10, 0, 0, 31), (31, 33, 0, 32), (2, 0, 0, 33), (14, 0, 0, 34), (38, 21, 9, 35), (9, 1, 1, 36), (31, 5, 0, 37), (0, 0, 0, 38)]
/-- EventLedgerModel.wrong (I)V -/
def ab_c67 : List ab_O := [(5, 0, 0, 1), (35, 22, 9, 2), (32, 4, 0, 3), (0, 0, 0, 4), (5, 0, 0, 5), (3, 1, 0, 6), (38, 22, 9, 7), (5, 0, 0, 8), (5, 0, 0, 9), (35, 19, 9, 10), (38, 23, 9, 11), (0, 0, 0, 12)]
/-- EventLedgerModel.goOn ()V -/
def ab_c68 : List ab_O := [(5, 0, 0, 1), (35, 22, 9, 2), (32, 5, 1, 3), (5, 0, 0, 4), (1, 64, 1, 5), (0, 0, 0, 6)]
/-- EventLedgerModel.numeral (II)I -/
def ab_c69 : List ab_O := [(5, 0, 0, 1), (35, 22, 9, 2), (32, 5, 0, 3), (3, 1, 0, 4), (0, 1, 0, 5), (5, 0, 0, 6), (35, 20, 9, 7), (2, 0, 2, 8), (33, 13, 0, 9), (5, 0, 0, 10), (2, 0, 1, 11), (1, 67, 2, 12), (31, 24, 0, 13), (5, 0, 0, 14), (35, 21, 9, 15), (3, 1, 0, 16), (33, 21, 2, 17), (5, 0, 0, 18), (35, 21, 9, 19), (3, 2, 0, 20), (33, 24, 5, 21), (5, 0, 0, 22), (2, 0, 2, 23), (1, 67, 2, 24), (5, 0, 0, 25), (35, 22, 9, 26), (32, 30, 1, 27), (5, 0, 0, 28), (35, 21, 9, 29), (31, 31, 0, 30), (3, 1, 0, 31), (6, 3, 0, 32), (5, 0, 0, 33), (1, 68, 1, 34), (3, 3, 0, 35), (0, 1, 0, 36)]
/-- EventLedgerModel.reading (I)I -/
def ab_c70 : List ab_O := [(5, 0, 0, 1), (37, 3, 9, 2), (2, 0, 6, 3), (3, 1, 0, 4), (10, 0, 0, 5), (43, 0, 0, 6), (0, 1, 0, 7)]
/-- EventLedgerModel.reads (II)V -/
def ab_c71 : List ab_O := [(5, 0, 0, 1), (37, 3, 9, 2), (2, 0, 6, 3), (3, 1, 0, 4), (10, 0, 0, 5), (3, 2, 0, 6), (48, 0, 0, 7), (0, 0, 0, 8)]
/-- EventLedgerModel.foundIn ([IIII)I -/
def ab_c72 : List ab_O := [(2, 0, 0, 1), (6, 4, 0, 2), (3, 4, 0, 3), (3, 2, 0, 4), (33, 16, 3, 5), (5, 0, 0, 6), (3, 1, 0, 7), (3, 4, 0, 8), (10, 0, 0, 9), (43, 0, 0, 10), (3, 3, 0, 11), (33, 14, 1, 12), (3, 4, 0, 13), (0, 1, 0, 14), (9, 4, 1, 15), (31, 2, 0, 16), (2, 0, -1, 17), (0, 1, 0, 18)]
/-- EventLedgerModel.newName ([III)V -/
def ab_c73 : List ab_O := [(5, 0, 0, 1), (1, 68, 1, 2), (5, 0, 0, 3), (35, 22, 9, 4), (32, 6, 0, 5), (0, 0, 0, 6), (5, 0, 0, 7), (35, 20, 9, 8), (2, 0, 1, 9), (33, 14, 0, 10), (5, 0, 0, 11), (2, 0, 1, 12), (1, 67, 2, 13), (31, 25, 0, 14), (5, 1, 0, 15), (3, 2, 0, 16), (3, 3, 0, 17), (5, 0, 0, 18), (35, 21, 9, 19), (1, 72, 4, 20), (2, 0, -1, 21), (33, 25, 0, 22), (5, 0, 0, 23), (2, 0, 3, 24), (1, 67, 2, 25), (5, 0, 0, 26), (35, 22, 9, 27), (32, 29, 0, 28), (0, 0, 0, 29), (5, 1, 0, 30), (3, 2, 0, 31), (3, 3, 0, 32), (10, 0, 0, 33), (5, 0, 0, 34), (35, 21, 9, 35), (48, 0, 0, 36), (5, 0, 0, 37), (1, 64, 1, 38), (0, 0, 0, 39)]
/-- EventLedgerModel.wordOf (II)I -/
def ab_c74 : List ab_O := [(5, 0, 0, 1), (35, 22, 9, 2), (32, 5, 0, 3), (3, 1, 0, 4), (0, 1, 0, 5), (5, 0, 0, 6), (35, 20, 9, 7), (32, 16, 1, 8), (5, 0, 0, 9), (35, 21, 9, 10), (3, 1, 0, 11), (33, 16, 2, 12), (5, 0, 0, 13), (35, 21, 9, 14), (3, 2, 0, 15), (33, 19, 5, 16), (5, 0, 0, 17), (2, 0, 1, 18), (1, 67, 2, 19), (5, 0, 0, 20), (35, 22, 9, 21), (32, 25, 1, 22), (5, 0, 0, 23), (35, 21, 9, 24), (31, 26, 0, 25), (3, 1, 0, 26), (6, 3, 0, 27), (5, 0, 0, 28), (1, 68, 1, 29), (3, 3, 0, 30), (0, 1, 0, 31)]
/-- EventLedgerModel.accountHere ()I -/
def ab_c75 : List ab_O := [(5, 0, 0, 1), (35, 22, 9, 2), (32, 5, 0, 3), (2, 0, 0, 4), (0, 1, 0, 5), (5, 0, 0, 6), (35, 20, 9, 7), (2, 0, 1, 8), (33, 12, 0, 9), (5, 0, 0, 10), (2, 0, 1, 11), (1, 67, 2, 12), (5, 0, 0, 13), (35, 22, 9, 14), (32, 25, 1, 15), (5, 0, 0, 16), (37, 4, 9, 17), (2, 0, 8, 18), (5, 0, 0, 19), (2, 0, 0, 20), (1, 70, 2, 21), (5, 0, 0, 22), (35, 21, 9, 23), (1, 72, 4, 24), (31, 26, 0, 25), (2, 0, 0, 26), (6, 1, 0, 27), (3, 1, 0, 28), (2, 0, -1, 29), (33, 33, 1, 30), (5, 0, 0, 31), (2, 0, 4, 32), (1, 67, 2, 33), (3, 1, 0, 34), (2, 0, -1, 35), (33, 38, 1, 36), (2, 0, 0, 37), (31, 39, 0, 38), (3, 1, 0, 39), (0, 1, 0, 40)]
/-- EventLedgerModel.readAccount ()V -/
def ab_c76 : List ab_O := [(5, 0, 0, 1), (2, 0, 0, 2), (1, 70, 2, 3), (2, 0, 8, 4), (33, 8, 1, 5), (5, 0, 0, 6), (2, 0, 2, 7), (1, 67, 2, 8), (5, 0, 0, 9), (5, 0, 0, 10), (37, 4, 9, 11), (2, 0, 8, 12), (5, 0, 0, 13), (2, 0, 0, 14), (1, 70, 2, 15), (1, 73, 4, 16), (5, 0, 0, 17), (35, 22, 9, 18), (32, 27, 1, 19), (5, 0, 0, 20), (2, 0, 0, 21), (5, 0, 0, 22), (2, 0, 0, 23), (1, 70, 2, 24), (2, 0, 1, 25), (10, 0, 0, 26), (1, 71, 3, 27), (0, 0, 0, 28)]
/-- EventLedgerModel.stepAt (IIII)I -/
def ab_c77 : List ab_O := [(2, 0, 56, 1), (3, 0, 0, 2), (12, 0, 0, 3), (2, 0, 8, 4), (3, 1, 0, 5), (12, 0, 0, 6), (10, 0, 0, 7), (2, 0, 4, 8), (3, 2, 0, 9), (2, 0, 1, 10), (11, 0, 0, 11), (12, 0, 0, 12), (10, 0, 0, 13), (3, 3, 0, 14), (10, 0, 0, 15), (0, 1, 0, 16)]
/-- EventLedgerModel.readLift ()V -/
def ab_c78 : List ab_O := [(5, 0, 0, 1), (1, 68, 1, 2), (5, 0, 0, 3), (2, 0, 0, 4), (2, 0, 6, 5), (1, 74, 3, 6), (6, 1, 0, 7), (5, 0, 0, 8), (35, 19, 9, 9), (6, 2, 0, 10), (5, 0, 0, 11), (2, 0, 1, 12), (2, 0, 2, 13), (1, 69, 3, 14), (6, 3, 0, 15), (2, 0, 14, 16), (2, 0, 2, 17), (3, 1, 0, 18), (12, 0, 0, 19), (10, 0, 0, 20), (3, 3, 0, 21), (10, 0, 0, 22), (2, 0, 1, 23), (11, 0, 0, 24), (6, 4, 0, 25), (5, 0, 0, 26), (35, 22, 9, 27), (32, 40, 1, 28), (5, 0, 0, 29), (37, 8, 9, 30), (3, 4, 0, 31), (43, 0, 0, 32), (2, 0, 4, 33), (33, 40, 1, 34), (5, 0, 0, 35), (2, 0, 2, 36), (38, 22, 9, 37), (5, 0, 0, 38), (3, 2, 0, 39), (38, 23, 9, 40), (5, 0, 0, 41), (2, 0, 8, 42), (2, 0, 11, 43), (1, 74, 3, 44), (6, 5, 0, 45), (5, 0, 0, 46), (2, 0, 1, 47), (2, 0, 3, 48), (1, 69, 3, 49), (6, 6, 0, 50), (3, 5, 0, 51), (2, 0, 11, 52), (33, 58, 1, 53), (5, 0, 0, 54), (2, 0, 1, 55), (2, 0, 3, 56), (1, 69, 3, 57), (31, 62, 0, 58), (5, 0, 0, 59), (2, 0, 0, 60), (2, 0, 999, 61), (1, 69, 3, 62), (6, 7, 0, 63), (5, 0, 0, 64), (35, 22, 9, 65), (32, 67, 0, 66), (0, 0, 0, 67), (2, 0, 1, 68), (3, 1, 0, 69), (3, 3, 0, 70), (5, 0, 0, 71), (37, 8, 9, 72), (3, 4, 0, 73), (43, 0, 0, 74), (1, 77, 4, 75), (6, 8, 0, 76), (5, 0, 0, 77), (37, 9, 9, 78), (3, 8, 0, 79), (3, 5, 0, 80), (48, 0, 0, 81), (5, 0, 0, 82), (37, 10, 9, 83), (3, 8, 0, 84), (3, 6, 0, 85), (48, 0, 0, 86), (5, 0, 0, 87), (37, 11, 9, 88), (3, 8, 0, 89), (3, 7, 0, 90), (48, 0, 0, 91), (5, 0, 0, 92), (37, 8, 9, 93), (3, 4, 0, 94), (29, 0, 0, 95), (43, 0, 0, 96), (2, 0, 1, 97), (10, 0, 0, 98), (48, 0, 0, 99), (0, 0, 0, 100)]
/-- EventLedgerModel.readTally ()V -/
def ab_c79 : List ab_O := [(2, 0, 4, 1), (5, 0, 0, 2), (2, 0, 1, 3), (1, 70, 2, 4), (10, 0, 0, 5), (6, 1, 0, 6), (3, 1, 0, 7), (2, 0, 8, 8), (33, 12, 1, 9), (5, 0, 0, 10), (2, 0, 2, 11), (1, 67, 2, 12), (5, 0, 0, 13), (5, 0, 0, 14), (37, 5, 9, 15), (2, 0, 4, 16), (5, 0, 0, 17), (2, 0, 1, 18), (1, 70, 2, 19), (1, 73, 4, 20), (5, 0, 0, 21), (2, 0, 0, 22), (2, 0, 6, 23), (1, 74, 3, 24), (6, 2, 0, 25), (5, 0, 0, 26), (2, 0, 1, 27), (2, 0, 3, 28), (1, 69, 3, 29), (6, 3, 0, 30), (5, 0, 0, 31), (35, 22, 9, 32), (32, 34, 0, 33), (0, 0, 0, 34), (5, 0, 0, 35), (37, 6, 9, 36), (3, 1, 0, 37), (3, 2, 0, 38), (48, 0, 0, 39), (5, 0, 0, 40), (37, 7, 9, 41), (3, 1, 0, 42), (3, 3, 0, 43), (48, 0, 0, 44), (5, 0, 0, 45), (2, 0, 1, 46), (5, 0, 0, 47), (2, 0, 1, 48), (1, 70, 2, 49), (2, 0, 1, 50), (10, 0, 0, 51), (1, 71, 3, 52), (0, 0, 0, 53)]
/-- EventLedgerModel.readSnap ()V -/
def ab_c80 : List ab_O := [(5, 0, 0, 1), (35, 14, 9, 2), (32, 6, 0, 3), (5, 0, 0, 4), (2, 0, 3, 5), (1, 67, 2, 6), (5, 0, 0, 7), (2, 0, 1, 8), (39, 14, 9, 9), (5, 0, 0, 10), (1, 68, 1, 11), (5, 0, 0, 12), (2, 0, 2, 13), (5, 0, 0, 14), (2, 0, 1, 15), (2, 0, 999, 16), (1, 69, 3, 17), (1, 71, 3, 18), (5, 0, 0, 19), (2, 0, 3, 20), (5, 0, 0, 21), (2, 0, 0, 22), (2, 0, 6, 23), (1, 69, 3, 24), (1, 71, 3, 25), (0, 0, 0, 26)]
/-- EventLedgerModel.readSeed ()V -/
def ab_c81 : List ab_O := [(5, 0, 0, 1), (35, 15, 9, 2), (32, 6, 0, 3), (5, 0, 0, 4), (2, 0, 3, 5), (1, 67, 2, 6), (5, 0, 0, 7), (2, 0, 1, 8), (39, 15, 9, 9), (5, 0, 0, 10), (1, 68, 1, 11), (5, 0, 0, 12), (2, 0, 4, 13), (5, 0, 0, 14), (2, 0, 0, 15), (2, 0, 99999, 16), (1, 69, 3, 17), (1, 71, 3, 18), (0, 0, 0, 19)]
/-- EventLedgerModel.timeAhead ()I -/
def ab_c82 : List ab_O := [(5, 0, 0, 1), (2, 0, 5, 2), (1, 70, 2, 3), (32, 6, 1, 4), (2, 0, 0, 5), (31, 18, 0, 6), (5, 0, 0, 7), (37, 12, 9, 8), (2, 0, 8, 9), (5, 0, 0, 10), (2, 0, 5, 11), (1, 70, 2, 12), (12, 0, 0, 13), (2, 0, 8, 14), (11, 0, 0, 15), (2, 0, 3, 16), (10, 0, 0, 17), (43, 0, 0, 18), (0, 1, 0, 19)]
/-- EventLedgerModel.readEvent (I)V -/
def ab_c83 : List ab_O := [(2, 0, 8, 1), (5, 0, 0, 2), (2, 0, 5, 3), (1, 70, 2, 4), (12, 0, 0, 5), (6, 2, 0, 6), (5, 0, 0, 7), (2, 0, 5, 8), (1, 70, 2, 9), (2, 0, 50, 10), (33, 14, 1, 11), (5, 0, 0, 12), (2, 0, 2, 13), (1, 67, 2, 14), (5, 0, 0, 15), (1, 68, 1, 16), (5, 0, 0, 17), (1, 75, 1, 18), (6, 3, 0, 19), (5, 0, 0, 20), (1, 68, 1, 21), (3, 1, 0, 22), (2, 0, 6, 23), (33, 27, 1, 24), (5, 0, 0, 25), (1, 75, 1, 26), (31, 28, 0, 27), (2, 0, -2, 28), (6, 4, 0, 29), (5, 0, 0, 30), (35, 22, 9, 31), (32, 38, 1, 32), (3, 4, 0, 33), (3, 3, 0, 34), (33, 38, 1, 35), (5, 0, 0, 36), (2, 0, 3, 37), (1, 67, 2, 38), (3, 1, 0, 39), (2, 0, 6, 40), (33, 43, 1, 41), (5, 0, 0, 42), (1, 68, 1, 43), (5, 0, 0, 44), (5, 0, 0, 45), (1, 82, 1, 46), (2, 0, 9999, 47), (1, 69, 3, 48), (6, 5, 0, 49), (5, 0, 0, 50), (2, 0, 1, 51), (2, 0, 3, 52), (1, 69, 3, 53), (6, 6, 0, 54), (5, 0, 0, 55), (2, 0, 0, 56), (2, 0, 99999, 57), (1, 69, 3, 58), (6, 7, 0, 59), (3, 6, 0, 60), (2, 0, 1, 61), (33, 67, 5, 62), (5, 0, 0, 63), (2, 0, 0, 64), (2, 0, 99999, 65), (1, 69, 3, 66), (31, 68, 0, 67), (2, 0, 0, 68), (6, 8, 0, 69), (3, 6, 0, 70), (2, 0, 2, 71), (33, 77, 5, 72), (5, 0, 0, 73), (2, 0, 0, 74), (2, 0, 99999, 75), (1, 69, 3, 76), (31, 78, 0, 77), (2, 0, 0, 78), (6, 9, 0, 79), (5, 0, 0, 80), (35, 22, 9, 81), (32, 83, 0, 82), (0, 0, 0, 83), (5, 0, 0, 84), (37, 12, 9, 85), (3, 2, 0, 86), (2, 0, 0, 87), (10, 0, 0, 88), (3, 1, 0, 89), (48, 0, 0, 90), (5, 0, 0, 91), (37, 12, 9, 92), (3, 2, 0, 93), (2, 0, 1, 94), (10, 0, 0, 95), (3, 3, 0, 96), (48, 0, 0, 97), (5, 0, 0, 98), (37, 12, 9, 99), (3, 2, 0, 100), (2, 0, 2, 101), (10, 0, 0, 102), (3, 4, 0, 103), (48, 0, 0, 104), (5, 0, 0, 105), (37, 12, 9, 106), (3, 2, 0, 107), (2, 0, 3, 108), (10, 0, 0, 109), (3, 5, 0, 110), (48, 0, 0, 111), (5, 0, 0, 112), (37, 12, 9, 113), (3, 2, 0, 114), (2, 0, 4, 115), (10, 0, 0, 116), (3, 6, 0, 117), (48, 0, 0, 118), (5, 0, 0, 119), (37, 12, 9, 120), (3, 2, 0, 121), (2, 0, 5, 122), (10, 0, 0, 123), (3, 7, 0, 124), (48, 0, 0, 125), (5, 0, 0, 126), (37, 12, 9, 127), (3, 2, 0, 128), (2, 0, 5, 129), (10, 0, 0, 130), (2, 0, 1, 131), (10, 0, 0, 132), (3, 8, 0, 133), (48, 0, 0, 134), (5, 0, 0, 135), (37, 12, 9, 136), (3, 2, 0, 137), (2, 0, 5, 138), (10, 0, 0, 139), (2, 0, 2, 140), (10, 0, 0, 141), (3, 9, 0, 142), (48, 0, 0, 143), (5, 0, 0, 144), (37, 13, 9, 145), (5, 0, 0, 146), (2, 0, 5, 147), (1, 70, 2, 148), (2, 0, -2, 149), (48, 0, 0, 150), (5, 0, 0, 151), (2, 0, 5, 152), (5, 0, 0, 153), (2, 0, 5, 154), (1, 70, 2, 155), (2, 0, 1, 156), (10, 0, 0, 157), (1, 71, 3, 158), (0, 0, 0, 159)]
/-- EventLedgerModel.readRevoke ()V -/
def ab_c84 : List ab_O := [(2, 0, 8, 1), (5, 0, 0, 2), (2, 0, 5, 3), (1, 70, 2, 4), (12, 0, 0, 5), (6, 1, 0, 6), (5, 0, 0, 7), (2, 0, 5, 8), (1, 70, 2, 9), (2, 0, 50, 10), (33, 14, 1, 11), (5, 0, 0, 12), (2, 0, 2, 13), (1, 67, 2, 14), (5, 0, 0, 15), (1, 68, 1, 16), (5, 0, 0, 17), (35, 22, 9, 18), (32, 20, 0, 19), (0, 0, 0, 20), (5, 0, 0, 21), (35, 20, 9, 22), (2, 0, 2, 23), (33, 28, 0, 24), (5, 0, 0, 25), (2, 0, 1, 26), (1, 67, 2, 27), (31, 59, 0, 28), (5, 0, 0, 29), (35, 21, 9, 30), (5, 0, 0, 31), (2, 0, 5, 32), (1, 70, 2, 33), (33, 45, 3, 34), (5, 0, 0, 35), (37, 12, 9, 36), (2, 0, 8, 37), (5, 0, 0, 38), (35, 21, 9, 39), (12, 0, 0, 40), (2, 0, 0, 41), (10, 0, 0, 42), (43, 0, 0, 43), (2, 0, 7, 44), (33, 49, 1, 45), (5, 0, 0, 46), (2, 0, 4, 47), (1, 67, 2, 48), (31, 59, 0, 49), (5, 0, 0, 50), (37, 13, 9, 51), (5, 0, 0, 52), (35, 21, 9, 53), (43, 0, 0, 54), (2, 0, -2, 55), (33, 59, 0, 56), (5, 0, 0, 57), (2, 0, 3, 58), (1, 67, 2, 59), (5, 0, 0, 60), (35, 22, 9, 61), (32, 65, 1, 62), (5, 0, 0, 63), (35, 21, 9, 64), (31, 66, 0, 65), (2, 0, 0, 66), (6, 2, 0, 67), (5, 0, 0, 68), (1, 68, 1, 69), (5, 0, 0, 70), (5, 0, 0, 71), (1, 82, 1, 72), (2, 0, 9999, 73), (1, 69, 3, 74), (6, 3, 0, 75), (5, 0, 0, 76), (35, 22, 9, 77), (32, 79, 0, 78), (0, 0, 0, 79), (5, 0, 0, 80), (37, 12, 9, 81), (3, 1, 0, 82), (2, 0, 0, 83), (10, 0, 0, 84), (2, 0, 7, 85), (48, 0, 0, 86), (5, 0, 0, 87), (37, 12, 9, 88), (3, 1, 0, 89), (2, 0, 1, 90), (10, 0, 0, 91), (2, 0, -2, 92), (48, 0, 0, 93), (5, 0, 0, 94), (37, 12, 9, 95), (3, 1, 0, 96), (2, 0, 2, 97), (10, 0, 0, 98), (3, 2, 0, 99), (48, 0, 0, 100), (5, 0, 0, 101), (37, 12, 9, 102), (3, 1, 0, 103), (2, 0, 3, 104), (10, 0, 0, 105), (3, 3, 0, 106), (48, 0, 0, 107), (5, 0, 0, 108), (37, 12, 9, 109), (3, 1, 0, 110), (2, 0, 4, 111), (10, 0, 0, 112), (2, 0, 0, 113), (48, 0, 0, 114), (2, 0, 0, 115), (6, 4, 0, 116), (3, 4, 0, 117), (2, 0, 3, 118), (33, 130, 3, 119), (5, 0, 0, 120), (37, 12, 9, 121), (3, 1, 0, 122), (2, 0, 5, 123), (10, 0, 0, 124), (3, 4, 0, 125), (10, 0, 0, 126), (2, 0, 0, 127), (48, 0, 0, 128), (9, 4, 1, 129), (31, 116, 0, 130), (5, 0, 0, 131), (37, 13, 9, 132), (3, 2, 0, 133), (5, 0, 0, 134), (2, 0, 5, 135), (1, 70, 2, 136), (48, 0, 0, 137), (5, 0, 0, 138), (37, 13, 9, 139), (5, 0, 0, 140), (2, 0, 5, 141), (1, 70, 2, 142), (2, 0, -2, 143), (48, 0, 0, 144), (5, 0, 0, 145), (2, 0, 5, 146), (5, 0, 0, 147), (2, 0, 5, 148), (1, 70, 2, 149), (2, 0, 1, 150), (10, 0, 0, 151), (1, 71, 3, 152), (0, 0, 0, 153)]
/-- EventLedgerModel.readLine ()V -/
def ab_c85 : List ab_O := [(5, 0, 0, 1), (35, 20, 9, 2), (32, 11, 1, 3), (5, 0, 0, 4), (35, 21, 9, 5), (2, 0, 8, 6), (33, 15, 2, 7), (5, 0, 0, 8), (35, 21, 9, 9), (2, 0, 11, 10), (33, 15, 4, 11), (5, 0, 0, 12), (2, 0, 1, 13), (1, 67, 2, 14), (31, 61, 0, 15), (5, 0, 0, 16), (35, 21, 9, 17), (2, 0, 6, 18), (33, 24, 4, 19), (5, 0, 0, 20), (5, 0, 0, 21), (35, 21, 9, 22), (1, 83, 2, 23), (31, 61, 0, 24), (5, 0, 0, 25), (35, 21, 9, 26), (2, 0, 7, 27), (33, 31, 1, 28), (5, 0, 0, 29), (1, 84, 1, 30), (31, 61, 0, 31), (5, 0, 0, 32), (35, 21, 9, 33), (2, 0, 12, 34), (33, 38, 1, 35), (5, 0, 0, 36), (1, 76, 1, 37), (31, 61, 0, 38), (5, 0, 0, 39), (35, 21, 9, 40), (2, 0, 13, 41), (33, 45, 1, 42), (5, 0, 0, 43), (1, 78, 1, 44), (31, 61, 0, 45), (5, 0, 0, 46), (35, 21, 9, 47), (2, 0, 14, 48), (33, 52, 1, 49), (5, 0, 0, 50), (1, 79, 1, 51), (31, 61, 0, 52), (5, 0, 0, 53), (35, 21, 9, 54), (2, 0, 15, 55), (33, 59, 1, 56), (5, 0, 0, 57), (1, 80, 1, 58), (31, 61, 0, 59), (5, 0, 0, 60), (1, 81, 1, 61), (5, 0, 0, 62), (35, 22, 9, 63), (32, 71, 1, 64), (5, 0, 0, 65), (35, 20, 9, 66), (2, 0, 3, 67), (33, 71, 0, 68), (5, 0, 0, 69), (2, 0, 1, 70), (1, 67, 2, 71), (5, 0, 0, 72), (1, 68, 1, 73), (5, 0, 0, 74), (28, 0, 0, 75), (35, 16, 9, 76), (2, 0, 1, 77), (10, 0, 0, 78), (38, 16, 9, 79), (0, 0, 0, 80)]
/-- EventLedgerModel.freshText ()V -/
def ab_c86 : List ab_O := [(2, 0, 0, 1), (6, 1, 0, 2), (3, 1, 0, 3), (2, 0, 6, 4), (33, 11, 3, 5), (5, 0, 0, 6), (3, 1, 0, 7), (2, 0, 0, 8), (1, 71, 3, 9), (9, 1, 1, 10), (31, 2, 0, 11), (5, 0, 0, 12), (2, 0, 2, 13), (2, 0, 20, 14), (1, 71, 3, 15), (5, 0, 0, 16), (2, 0, 3, 17), (2, 0, 3, 18), (1, 71, 3, 19), (2, 0, 0, 20), (6, 1, 0, 21), (3, 1, 0, 22), (2, 0, 14, 23), (33, 33, 3, 24), (5, 0, 0, 25), (37, 8, 9, 26), (2, 0, 14, 27), (3, 1, 0, 28), (10, 0, 0, 29), (2, 0, 0, 30), (48, 0, 0, 31), (9, 1, 1, 32), (31, 21, 0, 33), (5, 0, 0, 34), (2, 0, 0, 35), (39, 14, 9, 36), (5, 0, 0, 37), (2, 0, 0, 38), (39, 15, 9, 39), (0, 0, 0, 40)]
/-- EventLedgerModel.readText (I)V -/
def ab_c87 : List ab_O := [(5, 0, 0, 1), (3, 1, 0, 2), (38, 17, 9, 3), (5, 0, 0, 4), (2, 0, 0, 5), (38, 18, 9, 6), (5, 0, 0, 7), (2, 0, 0, 8), (38, 22, 9, 9), (5, 0, 0, 10), (2, 0, 0, 11), (38, 16, 9, 12), (5, 0, 0, 13), (1, 86, 1, 14), (5, 0, 0, 15), (1, 64, 1, 16), (5, 0, 0, 17), (35, 22, 9, 18), (32, 26, 1, 19), (5, 0, 0, 20), (35, 20, 9, 21), (2, 0, 4, 22), (33, 26, 0, 23), (5, 0, 0, 24), (1, 85, 1, 25), (31, 16, 0, 26), (0, 0, 0, 27)]
/-- EventLedgerModel.takeText ()V -/
def ab_c88 : List ab_O := [(2, 0, 0, 1), (6, 1, 0, 2), (3, 1, 0, 3), (2, 0, 6, 4), (33, 14, 3, 5), (5, 0, 0, 6), (37, 3, 9, 7), (3, 1, 0, 8), (5, 0, 0, 9), (3, 1, 0, 10), (1, 70, 2, 11), (48, 0, 0, 12), (9, 1, 1, 13), (31, 2, 0, 14), (2, 0, 0, 15), (6, 1, 0, 16), (3, 1, 0, 17), (2, 0, 8, 18), (33, 31, 3, 19), (5, 0, 0, 20), (37, 4, 9, 21), (3, 1, 0, 22), (5, 0, 0, 23), (37, 4, 9, 24), (2, 0, 8, 25), (3, 1, 0, 26), (10, 0, 0, 27), (43, 0, 0, 28), (48, 0, 0, 29), (9, 1, 1, 30), (31, 16, 0, 31), (2, 0, 0, 32), (6, 1, 0, 33), (3, 1, 0, 34), (2, 0, 4, 35), (33, 68, 3, 36), (5, 0, 0, 37), (37, 5, 9, 38), (3, 1, 0, 39), (5, 0, 0, 40), (37, 5, 9, 41), (2, 0, 4, 42), (3, 1, 0, 43), (10, 0, 0, 44), (43, 0, 0, 45), (48, 0, 0, 46), (5, 0, 0, 47), (37, 6, 9, 48), (3, 1, 0, 49), (5, 0, 0, 50), (37, 6, 9, 51), (2, 0, 4, 52), (3, 1, 0, 53), (10, 0, 0, 54), (43, 0, 0, 55), (48, 0, 0, 56), (5, 0, 0, 57), (37, 7, 9, 58), (3, 1, 0, 59), (5, 0, 0, 60), (37, 7, 9, 61), (2, 0, 4, 62), (3, 1, 0, 63), (10, 0, 0, 64), (43, 0, 0, 65), (48, 0, 0, 66), (9, 1, 1, 67), (31, 33, 0, 68), (2, 0, 0, 69), (6, 1, 0, 70), (3, 1, 0, 71), (2, 0, 14, 72), (33, 85, 3, 73), (5, 0, 0, 74), (37, 8, 9, 75), (3, 1, 0, 76), (5, 0, 0, 77), (37, 8, 9, 78), (2, 0, 14, 79), (3, 1, 0, 80), (10, 0, 0, 81), (43, 0, 0, 82), (48, 0, 0, 83), (9, 1, 1, 84), (31, 70, 0, 85), (2, 0, 0, 86), (6, 1, 0, 87), (3, 1, 0, 88), (2, 0, 56, 89), (33, 122, 3, 90), (5, 0, 0, 91), (37, 9, 9, 92), (3, 1, 0, 93), (5, 0, 0, 94), (37, 9, 9, 95), (2, 0, 56, 96), (3, 1, 0, 97), (10, 0, 0, 98), (43, 0, 0, 99), (48, 0, 0, 100), (5, 0, 0, 101), (37, 10, 9, 102), (3, 1, 0, 103), (5, 0, 0, 104), (37, 10, 9, 105), (2, 0, 56, 106), (3, 1, 0, 107), (10, 0, 0, 108), (43, 0, 0, 109), (48, 0, 0, 110), (5, 0, 0, 111), (37, 11, 9, 112), (3, 1, 0, 113), (5, 0, 0, 114), (37, 11, 9, 115), (2, 0, 56, 116), (3, 1, 0, 117), (10, 0, 0, 118), (43, 0, 0, 119), (48, 0, 0, 120), (9, 1, 1, 121), (31, 87, 0, 122), (0, 0, 0, 123)]
/-- EventLedgerModel.text (I)I -/
def ab_c89 : List ab_O := [(5, 0, 0, 1), (2, 0, 0, 2), (38, 0, 9, 3), (3, 1, 0, 4), (32, 9, 2, 5), (3, 1, 0, 6), (5, 0, 0, 7), (35, 2, 9, 8), (33, 11, 5, 9), (2, 0, -2, 10), (0, 1, 0, 11), (5, 0, 0, 12), (3, 1, 0, 13), (1, 87, 2, 14), (5, 0, 0, 15), (2, 0, 0, 16), (38, 2, 9, 17), (5, 0, 0, 18), (5, 0, 0, 19), (35, 22, 9, 20), (38, 24, 9, 21), (5, 0, 0, 22), (5, 0, 0, 23), (35, 22, 9, 24), (32, 27, 1, 25), (2, 0, -1, 26), (31, 29, 0, 27), (5, 0, 0, 28), (35, 23, 9, 29), (38, 25, 9, 30), (5, 0, 0, 31), (35, 22, 9, 32), (32, 35, 0, 33), (2, 0, -1, 34), (0, 1, 0, 35), (5, 0, 0, 36), (1, 88, 1, 37), (5, 0, 0, 38), (1, 96, 1, 39), (5, 0, 0, 40), (2, 0, 0, 41), (38, 30, 9, 42), (5, 0, 0, 43), (2, 0, 0, 44), (39, 31, 9, 45), (5, 0, 0, 46), (35, 16, 9, 47), (0, 1, 0, 48)]
/-- EventLedgerModel.fault (I)I -/
def ab_c90 : List ab_O := [(5, 0, 0, 1), (2, 0, 0, 2), (38, 0, 9, 3), (3, 1, 0, 4), (32, 8, 1, 5), (5, 0, 0, 6), (35, 24, 9, 7), (31, 15, 0, 8), (3, 1, 0, 9), (2, 0, 1, 10), (33, 14, 1, 11), (5, 0, 0, 12), (35, 25, 9, 13), (31, 15, 0, 14), (2, 0, -1, 15), (0, 1, 0, 16)]
/-- EventLedgerModel.accounts ()I -/
def ab_c91 : List ab_O := [(5, 0, 0, 1), (37, 3, 9, 2), (2, 0, 0, 3), (43, 0, 0, 4), (0, 1, 0, 5)]
/-- EventLedgerModel.tallies ()I -/
def ab_c92 : List ab_O := [(5, 0, 0, 1), (37, 3, 9, 2), (2, 0, 1, 3), (43, 0, 0, 4), (0, 1, 0, 5)]
/-- EventLedgerModel.named (II)I -/
def ab_c93 : List ab_O := [(5, 0, 0, 1), (2, 0, 0, 2), (38, 0, 9, 3), (3, 1, 0, 4), (32, 13, 1, 5), (5, 0, 0, 6), (37, 4, 9, 7), (2, 0, 0, 8), (5, 0, 0, 9), (1, 91, 1, 10), (3, 2, 0, 11), (1, 72, 4, 12), (31, 25, 0, 13), (3, 1, 0, 14), (2, 0, 1, 15), (33, 24, 1, 16), (5, 0, 0, 17), (37, 5, 9, 18), (2, 0, 0, 19), (5, 0, 0, 20), (1, 92, 1, 21), (3, 2, 0, 22), (1, 72, 4, 23), (31, 25, 0, 24), (2, 0, -1, 25), (0, 1, 0, 26)]
/-- EventLedgerModel.copies ([II[II)V -/
def ab_c94 : List ab_O := [(2, 0, 0, 1), (6, 4, 0, 2), (3, 4, 0, 3), (2, 0, 1607, 4), (33, 17, 3, 5), (5, 2, 0, 6), (3, 3, 0, 7), (3, 4, 0, 8), (10, 0, 0, 9), (5, 0, 0, 10), (3, 1, 0, 11), (3, 4, 0, 12), (10, 0, 0, 13), (43, 0, 0, 14), (48, 0, 0, 15), (9, 4, 1, 16), (31, 2, 0, 17), (0, 0, 0, 18)]
/-- EventLedgerModel.many ()I -/
def ab_c95 : List ab_O := [(5, 0, 0, 1), (37, 26, 9, 2), (2, 0, 1080, 3), (43, 0, 0, 4), (0, 1, 0, 5)]
/-- EventLedgerModel.begins ()V -/
def ab_c96 : List ab_O := [(2, 0, 0, 1), (6, 1, 0, 2), (3, 1, 0, 3), (2, 0, 1607, 4), (33, 12, 3, 5), (5, 0, 0, 6), (37, 26, 9, 7), (3, 1, 0, 8), (2, 0, 0, 9), (48, 0, 0, 10), (9, 1, 1, 11), (31, 2, 0, 12), (5, 0, 0, 13), (37, 26, 9, 14), (2, 0, 1089, 15), (5, 0, 0, 16), (37, 3, 9, 17), (2, 0, 2, 18), (43, 0, 0, 19), (48, 0, 0, 20), (5, 0, 0, 21), (37, 26, 9, 22), (2, 0, 1090, 23), (5, 0, 0, 24), (37, 3, 9, 25), (2, 0, 3, 26), (43, 0, 0, 27), (48, 0, 0, 28), (2, 0, 0, 29), (6, 1, 0, 30), (3, 1, 0, 31), (5, 0, 0, 32), (37, 3, 9, 33), (2, 0, 5, 34), (43, 0, 0, 35), (33, 99, 3, 36), (2, 0, 8, 37), (3, 1, 0, 38), (12, 0, 0, 39), (6, 2, 0, 40), (5, 0, 0, 41), (5, 0, 0, 42), (37, 12, 9, 43), (3, 2, 0, 44), (2, 0, 0, 45), (10, 0, 0, 46), (43, 0, 0, 47), (5, 0, 0, 48), (37, 12, 9, 49), (3, 2, 0, 50), (2, 0, 1, 51), (10, 0, 0, 52), (43, 0, 0, 53), (5, 0, 0, 54), (37, 12, 9, 55), (3, 2, 0, 56), (2, 0, 2, 57), (10, 0, 0, 58), (43, 0, 0, 59), (5, 0, 0, 60), (37, 12, 9, 61), (3, 2, 0, 62), (2, 0, 3, 63), (10, 0, 0, 64), (43, 0, 0, 65), (5, 0, 0, 66), (37, 12, 9, 67), (3, 2, 0, 68), (2, 0, 4, 69), (10, 0, 0, 70), (43, 0, 0, 71), (1, 109, 6, 72), (2, 0, 0, 73), (6, 3, 0, 74), (3, 3, 0, 75), (2, 0, 3, 76), (33, 97, 3, 77), (5, 0, 0, 78), (37, 26, 9, 79), (2, 0, 9, 80), (3, 1, 0, 81), (12, 0, 0, 82), (2, 0, 5, 83), (10, 0, 0, 84), (3, 3, 0, 85), (10, 0, 0, 86), (5, 0, 0, 87), (37, 12, 9, 88), (3, 2, 0, 89), (2, 0, 5, 90), (10, 0, 0, 91), (3, 3, 0, 92), (10, 0, 0, 93), (43, 0, 0, 94), (48, 0, 0, 95), (9, 3, 1, 96), (31, 74, 0, 97), (9, 1, 1, 98), (31, 30, 0, 99), (0, 0, 0, 100)]
/-- EventLedgerModel.remembers ()V -/
def ab_c97 : List ab_O := [(5, 0, 0, 1), (35, 30, 9, 2), (2, 0, 20, 3), (33, 27, 1, 4), (2, 0, 0, 5), (6, 1, 0, 6), (3, 1, 0, 7), (2, 0, 30533, 8), (33, 21, 3, 9), (5, 0, 0, 10), (37, 29, 9, 11), (3, 1, 0, 12), (5, 0, 0, 13), (37, 29, 9, 14), (2, 0, 1607, 15), (3, 1, 0, 16), (10, 0, 0, 17), (43, 0, 0, 18), (48, 0, 0, 19), (9, 1, 1, 20), (31, 6, 0, 21), (5, 0, 0, 22), (28, 0, 0, 23), (35, 30, 9, 24), (2, 0, 1, 25), (11, 0, 0, 26), (38, 30, 9, 27), (5, 0, 0, 28), (37, 26, 9, 29), (2, 0, 0, 30), (5, 0, 0, 31), (37, 29, 9, 32), (2, 0, 1607, 33), (5, 0, 0, 34), (35, 30, 9, 35), (12, 0, 0, 36), (1, 94, 4, 37), (5, 0, 0, 38), (28, 0, 0, 39), (35, 30, 9, 40), (2, 0, 1, 41), (10, 0, 0, 42), (38, 30, 9, 43), (0, 0, 0, 44)]
/-- EventLedgerModel.undo ()I -/
def ab_c98 : List ab_O := [(5, 0, 0, 1), (2, 0, 0, 2), (38, 0, 9, 3), (5, 0, 0, 4), (35, 30, 9, 5), (32, 8, 1, 6), (2, 0, -1, 7), (0, 1, 0, 8), (5, 0, 0, 9), (28, 0, 0, 10), (35, 30, 9, 11), (2, 0, 1, 12), (11, 0, 0, 13), (38, 30, 9, 14), (5, 0, 0, 15), (37, 29, 9, 16), (2, 0, 1607, 17), (5, 0, 0, 18), (35, 30, 9, 19), (12, 0, 0, 20), (5, 0, 0, 21), (37, 26, 9, 22), (2, 0, 0, 23), (1, 94, 4, 24), (5, 0, 0, 25), (35, 30, 9, 26), (0, 1, 0, 27)]
/-- EventLedgerModel.keep ()I -/
def ab_c99 : List ab_O := [(5, 0, 0, 1), (2, 0, 0, 2), (38, 0, 9, 3), (5, 0, 0, 4), (37, 26, 9, 5), (2, 0, 0, 6), (5, 0, 0, 7), (37, 28, 9, 8), (2, 0, 0, 9), (1, 94, 4, 10), (5, 0, 0, 11), (2, 0, 1, 12), (39, 31, 9, 13), (5, 0, 0, 14), (1, 95, 1, 15), (0, 1, 0, 16)]
/-- EventLedgerModel.back ()I -/
def ab_c100 : List ab_O := [(5, 0, 0, 1), (2, 0, 0, 2), (38, 0, 9, 3), (5, 0, 0, 4), (35, 31, 9, 5), (32, 8, 1, 6), (2, 0, -1, 7), (0, 1, 0, 8), (5, 0, 0, 9), (37, 28, 9, 10), (2, 0, 0, 11), (5, 0, 0, 12), (37, 26, 9, 13), (2, 0, 0, 14), (1, 94, 4, 15), (5, 0, 0, 16), (2, 0, 0, 17), (38, 30, 9, 18), (5, 0, 0, 19), (1, 95, 1, 20), (0, 1, 0, 21)]
/-- EventLedgerModel.isVoid (I)Z -/
def ab_c101 : List ab_O := [(5, 0, 0, 1), (37, 26, 9, 2), (2, 0, 9, 3), (3, 1, 0, 4), (12, 0, 0, 5), (2, 0, 0, 6), (10, 0, 0, 7), (43, 0, 0, 8), (2, 0, 7, 9), (33, 12, 1, 10), (2, 0, 1, 11), (31, 13, 0, 12), (2, 0, 0, 13), (0, 2, 0, 14)]
/-- EventLedgerModel.isVoided (I)Z -/
def ab_c102 : List ab_O := [(5, 0, 0, 1), (37, 26, 9, 2), (2, 0, 9, 3), (3, 1, 0, 4), (12, 0, 0, 5), (2, 0, 8, 6), (10, 0, 0, 7), (43, 0, 0, 8), (32, 11, 0, 9), (2, 0, 1, 10), (31, 12, 0, 11), (2, 0, 0, 12), (0, 2, 0, 13)]
/-- EventLedgerModel.weightOf (I)I -/
def ab_c103 : List ab_O := [(5, 0, 0, 1), (3, 1, 0, 2), (1, 101, 2, 3), (32, 6, 0, 4), (2, 0, 1, 5), (31, 16, 0, 6), (2, 0, 4, 7), (5, 0, 0, 8), (37, 26, 9, 9), (2, 0, 9, 10), (3, 1, 0, 11), (12, 0, 0, 12), (2, 0, 4, 13), (10, 0, 0, 14), (43, 0, 0, 15), (11, 0, 0, 16), (0, 1, 0, 17)]
/-- EventLedgerModel.weights (II)I -/
def ab_c104 : List ab_O := [(2, 0, 0, 1), (6, 3, 0, 2), (3, 1, 0, 3), (6, 4, 0, 4), (3, 4, 0, 5), (3, 2, 0, 6), (33, 15, 3, 7), (3, 3, 0, 8), (5, 0, 0, 9), (3, 4, 0, 10), (1, 103, 2, 11), (10, 0, 0, 12), (6, 3, 0, 13), (9, 4, 1, 14), (31, 4, 0, 15), (3, 3, 0, 16), (0, 1, 0, 17)]
/-- EventLedgerModel.snapAt (I)I -/
def ab_c105 : List ab_O := [(3, 1, 0, 1), (32, 4, 3, 2), (2, 0, 0, 3), (31, 10, 0, 4), (5, 0, 0, 5), (37, 26, 9, 6), (2, 0, 1082, 7), (3, 1, 0, 8), (10, 0, 0, 9), (43, 0, 0, 10), (0, 1, 0, 11)]
/-- EventLedgerModel.snapGoes (I)V -/
def ab_c106 : List ab_O := [(5, 0, 0, 1), (37, 26, 9, 2), (2, 0, 1081, 3), (29, 0, 0, 4), (43, 0, 0, 5), (2, 0, 1, 6), (11, 0, 0, 7), (48, 0, 0, 8), (3, 1, 0, 9), (6, 2, 0, 10), (3, 2, 0, 11), (5, 0, 0, 12), (37, 26, 9, 13), (2, 0, 1081, 14), (43, 0, 0, 15), (33, 32, 3, 16), (5, 0, 0, 17), (37, 26, 9, 18), (2, 0, 1082, 19), (3, 2, 0, 20), (10, 0, 0, 21), (5, 0, 0, 22), (37, 26, 9, 23), (2, 0, 1082, 24), (3, 2, 0, 25), (10, 0, 0, 26), (2, 0, 1, 27), (10, 0, 0, 28), (43, 0, 0, 29), (48, 0, 0, 30), (9, 2, 1, 31), (31, 10, 0, 32), (0, 0, 0, 33)]
/-- EventLedgerModel.snaps (I)V -/
def ab_c107 : List ab_O := [(5, 0, 0, 1), (5, 0, 0, 2), (5, 0, 0, 3), (37, 26, 9, 4), (2, 0, 1081, 5), (43, 0, 0, 6), (2, 0, 1, 7), (11, 0, 0, 8), (1, 105, 2, 9), (3, 1, 0, 10), (1, 104, 3, 11), (5, 0, 0, 12), (37, 26, 9, 13), (2, 0, 1089, 14), (43, 0, 0, 15), (33, 17, 3, 16), (0, 0, 0, 17), (5, 0, 0, 18), (37, 26, 9, 19), (2, 0, 1082, 20), (5, 0, 0, 21), (37, 26, 9, 22), (2, 0, 1081, 23), (43, 0, 0, 24), (10, 0, 0, 25), (3, 1, 0, 26), (48, 0, 0, 27), (5, 0, 0, 28), (37, 26, 9, 29), (2, 0, 1081, 30), (29, 0, 0, 31), (43, 0, 0, 32), (2, 0, 1, 33), (10, 0, 0, 34), (48, 0, 0, 35), (5, 0, 0, 36), (28, 0, 0, 37), (35, 32, 9, 38), (2, 0, 1, 39), (10, 0, 0, 40), (38, 32, 9, 41), (5, 0, 0, 42), (37, 26, 9, 43), (2, 0, 1081, 44), (43, 0, 0, 45), (5, 0, 0, 46), (37, 26, 9, 47), (2, 0, 1090, 48), (43, 0, 0, 49), (33, 51, 4, 50), (0, 0, 0, 51), (2, 0, 0, 52), (6, 2, 0, 53), (2, 0, 1, 54), (6, 3, 0, 55), (3, 3, 0, 56), (5, 0, 0, 57), (37, 26, 9, 58), (2, 0, 1081, 59), (43, 0, 0, 60), (2, 0, 1, 61), (11, 0, 0, 62), (33, 92, 3, 63), (5, 0, 0, 64), (5, 0, 0, 65), (3, 3, 0, 66), (2, 0, 1, 67), (11, 0, 0, 68), (1, 105, 2, 69), (5, 0, 0, 70), (3, 3, 0, 71), (2, 0, 1, 72), (10, 0, 0, 73), (1, 105, 2, 74), (1, 104, 3, 75), (5, 0, 0, 76), (5, 0, 0, 77), (3, 2, 0, 78), (2, 0, 1, 79), (11, 0, 0, 80), (1, 105, 2, 81), (5, 0, 0, 82), (3, 2, 0, 83), (2, 0, 1, 84), (10, 0, 0, 85), (1, 105, 2, 86), (1, 104, 3, 87), (33, 90, 3, 88), (3, 3, 0, 89), (6, 2, 0, 90), (9, 3, 1, 91), (31, 55, 0, 92), (5, 0, 0, 93), (3, 2, 0, 94), (1, 106, 2, 95), (0, 0, 0, 96)]
/-- EventLedgerModel.letsGo (I)V -/
def ab_c108 : List ab_O := [(5, 0, 0, 1), (37, 26, 9, 2), (2, 0, 1081, 3), (43, 0, 0, 4), (32, 24, 5, 5), (5, 0, 0, 6), (5, 0, 0, 7), (37, 26, 9, 8), (2, 0, 1081, 9), (43, 0, 0, 10), (2, 0, 1, 11), (11, 0, 0, 12), (1, 105, 2, 13), (3, 1, 0, 14), (33, 24, 5, 15), (5, 0, 0, 16), (37, 26, 9, 17), (2, 0, 1081, 18), (29, 0, 0, 19), (43, 0, 0, 20), (2, 0, 1, 21), (11, 0, 0, 22), (48, 0, 0, 23), (31, 0, 0, 24), (0, 0, 0, 25)]
/-- EventLedgerModel.comes (IIIII)V -/
def ab_c109 : List ab_O := [(5, 0, 0, 1), (1, 95, 1, 2), (6, 6, 0, 3), (5, 0, 0, 4), (37, 26, 9, 5), (2, 0, 9, 6), (3, 6, 0, 7), (12, 0, 0, 8), (2, 0, 0, 9), (10, 0, 0, 10), (3, 1, 0, 11), (48, 0, 0, 12), (5, 0, 0, 13), (37, 26, 9, 14), (2, 0, 9, 15), (3, 6, 0, 16), (12, 0, 0, 17), (2, 0, 1, 18), (10, 0, 0, 19), (3, 2, 0, 20), (48, 0, 0, 21), (5, 0, 0, 22), (37, 26, 9, 23), (2, 0, 9, 24), (3, 6, 0, 25), (12, 0, 0, 26), (2, 0, 2, 27), (10, 0, 0, 28), (3, 3, 0, 29), (48, 0, 0, 30), (5, 0, 0, 31), (37, 26, 9, 32), (2, 0, 9, 33), (3, 6, 0, 34), (12, 0, 0, 35), (2, 0, 3, 36), (10, 0, 0, 37), (3, 4, 0, 38), (48, 0, 0, 39), (5, 0, 0, 40), (37, 26, 9, 41), (2, 0, 9, 42), (3, 6, 0, 43), (12, 0, 0, 44), (2, 0, 4, 45), (10, 0, 0, 46), (3, 5, 0, 47), (48, 0, 0, 48), (5, 0, 0, 49), (37, 26, 9, 50), (2, 0, 9, 51), (3, 6, 0, 52), (12, 0, 0, 53), (2, 0, 8, 54), (10, 0, 0, 55), (2, 0, 0, 56), (48, 0, 0, 57), (2, 0, 0, 58), (6, 7, 0, 59), (3, 7, 0, 60), (2, 0, 3, 61), (33, 75, 3, 62), (5, 0, 0, 63), (37, 26, 9, 64), (2, 0, 9, 65), (3, 6, 0, 66), (12, 0, 0, 67), (2, 0, 5, 68), (10, 0, 0, 69), (3, 7, 0, 70), (10, 0, 0, 71), (2, 0, 0, 72), (48, 0, 0, 73), (9, 7, 1, 74), (31, 59, 0, 75), (3, 1, 0, 76), (2, 0, 7, 77), (33, 92, 1, 78), (5, 0, 0, 79), (37, 26, 9, 80), (2, 0, 9, 81), (3, 3, 0, 82), (12, 0, 0, 83), (2, 0, 8, 84), (10, 0, 0, 85), (3, 6, 0, 86), (2, 0, 1, 87), (10, 0, 0, 88), (48, 0, 0, 89), (5, 0, 0, 90), (3, 3, 0, 91), (1, 108, 2, 92), (5, 0, 0, 93), (37, 26, 9, 94), (2, 0, 1080, 95), (29, 0, 0, 96), (43, 0, 0, 97), (2, 0, 1, 98), (10, 0, 0, 99), (48, 0, 0, 100), (5, 0, 0, 101), (5, 0, 0, 102), (37, 26, 9, 103), (2, 0, 1080, 104), (43, 0, 0, 105), (1, 107, 2, 106), (0, 0, 0, 107)]
/-- EventLedgerModel.breaks (I)Z -/
def ab_c110 : List ab_O := [(5, 0, 0, 1), (37, 26, 9, 2), (2, 0, 9, 3), (3, 1, 0, 4), (12, 0, 0, 5), (2, 0, 0, 6), (10, 0, 0, 7), (43, 0, 0, 8), (6, 2, 0, 9), (2, 0, 0, 10), (6, 3, 0, 11), (3, 3, 0, 12), (2, 0, 3, 13), (33, 30, 3, 14), (5, 0, 0, 15), (37, 33, 9, 16), (3, 3, 0, 17), (5, 0, 0, 18), (37, 26, 9, 19), (2, 0, 9, 20), (3, 1, 0, 21), (12, 0, 0, 22), (2, 0, 5, 23), (10, 0, 0, 24), (3, 3, 0, 25), (10, 0, 0, 26), (43, 0, 0, 27), (48, 0, 0, 28), (9, 3, 1, 29), (31, 11, 0, 30), (5, 0, 0, 31), (37, 26, 9, 32), (2, 0, 9, 33), (3, 1, 0, 34), (12, 0, 0, 35), (2, 0, 4, 36), (10, 0, 0, 37), (43, 0, 0, 38), (6, 3, 0, 39), (3, 3, 0, 40), (2, 0, 3, 41), (33, 82, 3, 42), (3, 2, 0, 43), (5, 0, 0, 44), (35, 34, 9, 45), (33, 52, 1, 46), (3, 3, 0, 47), (5, 0, 0, 48), (35, 35, 9, 49), (33, 52, 1, 50), (2, 0, 0, 51), (31, 62, 0, 52), (5, 0, 0, 53), (37, 8, 9, 54), (2, 0, 2, 55), (3, 2, 0, 56), (12, 0, 0, 57), (3, 3, 0, 58), (10, 0, 0, 59), (2, 0, 1, 60), (11, 0, 0, 61), (43, 0, 0, 62), (6, 4, 0, 63), (2, 0, 0, 64), (6, 5, 0, 65), (3, 5, 0, 66), (3, 4, 0, 67), (33, 80, 3, 68), (5, 0, 0, 69), (2, 0, 0, 70), (3, 2, 0, 71), (3, 3, 0, 72), (3, 5, 0, 73), (1, 77, 4, 74), (1, 111, 2, 75), (32, 78, 0, 76), (2, 0, 1, 77), (0, 2, 0, 78), (9, 5, 1, 79), (31, 65, 0, 80), (9, 3, 1, 81), (31, 39, 0, 82), (2, 0, 0, 83), (0, 2, 0, 84)]
/-- EventLedgerModel.breaksBy (I)Z -/
def ab_c111 : List ab_O := [(5, 0, 0, 1), (37, 10, 9, 2), (3, 1, 0, 3), (43, 0, 0, 4), (2, 0, 1, 5), (11, 0, 0, 6), (6, 2, 0, 7), (5, 0, 0, 8), (37, 11, 9, 9), (3, 1, 0, 10), (43, 0, 0, 11), (6, 3, 0, 12), (5, 0, 0, 13), (37, 9, 9, 14), (3, 1, 0, 15), (43, 0, 0, 16), (2, 0, 8, 17), (11, 0, 0, 18), (34, 3, 0, 19), (5, 0, 0, 20), (37, 33, 9, 21), (3, 2, 0, 22), (3, 3, 0, 23), (48, 0, 0, 24), (31, 53, 0, 25), (5, 0, 0, 26), (37, 33, 9, 27), (3, 2, 0, 28), (29, 0, 0, 29), (43, 0, 0, 30), (3, 3, 0, 31), (12, 0, 0, 32), (48, 0, 0, 33), (31, 53, 0, 34), (5, 0, 0, 35), (37, 33, 9, 36), (3, 2, 0, 37), (29, 0, 0, 38), (43, 0, 0, 39), (3, 3, 0, 40), (10, 0, 0, 41), (48, 0, 0, 42), (31, 53, 0, 43), (5, 0, 0, 44), (37, 33, 9, 45), (3, 2, 0, 46), (5, 0, 0, 47), (37, 33, 9, 48), (3, 3, 0, 49), (2, 0, 1, 50), (11, 0, 0, 51), (43, 0, 0, 52), (48, 0, 0, 53), (5, 0, 0, 54), (37, 33, 9, 55), (2, 0, 0, 56), (43, 0, 0, 57), (2, 0, 1000000, 58), (33, 71, 4, 59), (5, 0, 0, 60), (37, 33, 9, 61), (2, 0, 1, 62), (43, 0, 0, 63), (2, 0, 1000000, 64), (33, 71, 4, 65), (5, 0, 0, 66), (37, 33, 9, 67), (2, 0, 2, 68), (43, 0, 0, 69), (2, 0, 1000000, 70), (33, 73, 5, 71), (2, 0, 1, 72), (31, 74, 0, 73), (2, 0, 0, 74), (0, 2, 0, 75)]
/-- EventLedgerModel.causeOf (IIIZ)I -/
def ab_c112 : List ab_O := [(3, 4, 0, 1), (32, 4, 0, 2), (2, 0, 1, 3), (0, 1, 0, 4), (3, 1, 0, 5), (32, 12, 1, 6), (5, 0, 0, 7), (37, 39, 9, 8), (3, 2, 0, 9), (45, 0, 0, 10), (32, 19, 0, 11), (31, 17, 0, 12), (5, 0, 0, 13), (37, 39, 9, 14), (3, 2, 0, 15), (45, 0, 0, 16), (32, 19, 1, 17), (2, 0, 2, 18), (0, 1, 0, 19), (3, 1, 0, 20), (2, 0, 6, 21), (33, 29, 1, 22), (5, 0, 0, 23), (37, 39, 9, 24), (3, 3, 0, 25), (45, 0, 0, 26), (32, 29, 1, 27), (2, 0, 2, 28), (0, 1, 0, 29), (2, 0, 0, 30), (6, 5, 0, 31), (3, 1, 0, 32), (34, 4, 0, 33), (5, 0, 0, 34), (37, 36, 9, 35), (3, 2, 0, 36), (43, 0, 0, 37), (5, 0, 0, 38), (37, 33, 9, 39), (2, 0, 0, 40), (43, 0, 0, 41), (11, 0, 0, 42), (5, 0, 0, 43), (37, 33, 9, 44), (2, 0, 1, 45), (43, 0, 0, 46), (11, 0, 0, 47), (5, 0, 0, 48), (37, 37, 9, 49), (3, 2, 0, 50), (43, 0, 0, 51), (11, 0, 0, 52), (5, 0, 0, 53), (37, 38, 9, 54), (3, 2, 0, 55), (43, 0, 0, 56), (20, 0, 0, 57), (33, 60, 3, 58), (2, 0, 1, 59), (31, 61, 0, 60), (2, 0, 0, 61), (6, 5, 0, 62), (31, 111, 0, 63), (5, 0, 0, 64), (37, 37, 9, 65), (3, 2, 0, 66), (43, 0, 0, 67), (5, 0, 0, 68), (37, 33, 9, 69), (2, 0, 0, 70), (43, 0, 0, 71), (10, 0, 0, 72), (5, 0, 0, 73), (37, 36, 9, 74), (3, 2, 0, 75), (43, 0, 0, 76), (33, 79, 5, 77), (2, 0, 1, 78), (31, 80, 0, 79), (2, 0, 0, 80), (6, 5, 0, 81), (31, 111, 0, 82), (5, 0, 0, 83), (37, 37, 9, 84), (3, 2, 0, 85), (43, 0, 0, 86), (5, 0, 0, 87), (37, 33, 9, 88), (2, 0, 0, 89), (43, 0, 0, 90), (33, 93, 3, 91), (2, 0, 1, 92), (31, 94, 0, 93), (2, 0, 0, 94), (6, 5, 0, 95), (31, 111, 0, 96), (5, 0, 0, 97), (37, 36, 9, 98), (3, 2, 0, 99), (43, 0, 0, 100), (32, 106, 1, 101), (5, 0, 0, 102), (37, 37, 9, 103), (3, 2, 0, 104), (43, 0, 0, 105), (32, 108, 0, 106), (2, 0, 1, 107), (31, 109, 0, 108), (2, 0, 0, 109), (6, 5, 0, 110), (31, 111, 0, 111), (3, 5, 0, 112), (32, 115, 0, 113), (2, 0, 3, 114), (31, 116, 0, 115), (2, 0, 0, 116), (0, 1, 0, 117)]
/-- EventLedgerModel.applies (III)V -/
def ab_c113 : List ab_O := [(3, 1, 0, 1), (34, 5, 0, 2), (5, 0, 0, 3), (37, 39, 9, 4), (3, 2, 0, 5), (2, 0, 1, 6), (50, 0, 0, 7), (5, 0, 0, 8), (37, 36, 9, 9), (3, 2, 0, 10), (2, 0, 0, 11), (48, 0, 0, 12), (5, 0, 0, 13), (37, 37, 9, 14), (3, 2, 0, 15), (2, 0, 0, 16), (48, 0, 0, 17), (5, 0, 0, 18), (37, 38, 9, 19), (3, 2, 0, 20), (5, 0, 0, 21), (37, 33, 9, 22), (2, 0, 0, 23), (43, 0, 0, 24), (48, 0, 0, 25), (31, 117, 0, 26), (5, 0, 0, 27), (37, 36, 9, 28), (3, 2, 0, 29), (29, 0, 0, 30), (43, 0, 0, 31), (5, 0, 0, 32), (37, 33, 9, 33), (2, 0, 0, 34), (43, 0, 0, 35), (5, 0, 0, 36), (37, 33, 9, 37), (2, 0, 1, 38), (43, 0, 0, 39), (11, 0, 0, 40), (10, 0, 0, 41), (48, 0, 0, 42), (31, 117, 0, 43), (5, 0, 0, 44), (37, 36, 9, 45), (3, 2, 0, 46), (29, 0, 0, 47), (43, 0, 0, 48), (5, 0, 0, 49), (37, 33, 9, 50), (2, 0, 0, 51), (43, 0, 0, 52), (5, 0, 0, 53), (37, 33, 9, 54), (2, 0, 1, 55), (43, 0, 0, 56), (10, 0, 0, 57), (11, 0, 0, 58), (48, 0, 0, 59), (31, 117, 0, 60), (5, 0, 0, 61), (37, 37, 9, 62), (3, 2, 0, 63), (29, 0, 0, 64), (43, 0, 0, 65), (5, 0, 0, 66), (37, 33, 9, 67), (2, 0, 0, 68), (43, 0, 0, 69), (10, 0, 0, 70), (48, 0, 0, 71), (31, 117, 0, 72), (5, 0, 0, 73), (37, 37, 9, 74), (3, 2, 0, 75), (29, 0, 0, 76), (43, 0, 0, 77), (5, 0, 0, 78), (37, 33, 9, 79), (2, 0, 0, 80), (43, 0, 0, 81), (11, 0, 0, 82), (48, 0, 0, 83), (31, 117, 0, 84), (5, 0, 0, 85), (37, 39, 9, 86), (3, 2, 0, 87), (2, 0, 0, 88), (50, 0, 0, 89), (31, 117, 0, 90), (5, 0, 0, 91), (37, 36, 9, 92), (3, 2, 0, 93), (29, 0, 0, 94), (43, 0, 0, 95), (5, 0, 0, 96), (37, 33, 9, 97), (2, 0, 0, 98), (43, 0, 0, 99), (5, 0, 0, 100), (37, 33, 9, 101), (2, 0, 1, 102), (43, 0, 0, 103), (10, 0, 0, 104), (11, 0, 0, 105), (48, 0, 0, 106), (5, 0, 0, 107), (37, 36, 9, 108), (3, 3, 0, 109), (29, 0, 0, 110), (43, 0, 0, 111), (5, 0, 0, 112), (37, 33, 9, 113), (2, 0, 0, 114), (43, 0, 0, 115), (10, 0, 0, 116), (48, 0, 0, 117), (0, 0, 0, 118)]
/-- EventLedgerModel.replays (IIII)V -/
def ab_c114 : List ab_O := [(2, 0, 0, 1), (6, 5, 0, 2), (3, 5, 0, 3), (2, 0, 8, 4), (33, 27, 3, 5), (5, 0, 0, 6), (37, 36, 9, 7), (3, 5, 0, 8), (2, 0, 0, 9), (48, 0, 0, 10), (5, 0, 0, 11), (37, 37, 9, 12), (3, 5, 0, 13), (2, 0, 0, 14), (48, 0, 0, 15), (5, 0, 0, 16), (37, 38, 9, 17), (3, 5, 0, 18), (2, 0, 0, 19), (48, 0, 0, 20), (5, 0, 0, 21), (37, 39, 9, 22), (3, 5, 0, 23), (2, 0, 0, 24), (50, 0, 0, 25), (9, 5, 1, 26), (31, 2, 0, 27), (5, 0, 0, 28), (2, 0, -2, 29), (38, 41, 9, 30), (5, 0, 0, 31), (2, 0, 0, 32), (38, 42, 9, 33), (5, 0, 0, 34), (2, 0, -2, 35), (38, 43, 9, 36), (2, 0, 0, 37), (6, 5, 0, 38), (3, 5, 0, 39), (3, 1, 0, 40), (33, 163, 3, 41), (2, 0, 9, 42), (3, 5, 0, 43), (12, 0, 0, 44), (6, 6, 0, 45), (5, 0, 0, 46), (37, 40, 9, 47), (3, 5, 0, 48), (2, 0, 0, 49), (48, 0, 0, 50), (5, 0, 0, 51), (3, 5, 0, 52), (1, 101, 2, 53), (32, 69, 1, 54), (3, 5, 0, 55), (3, 2, 0, 56), (33, 69, 0, 57), (5, 0, 0, 58), (3, 5, 0, 59), (1, 102, 2, 60), (32, 71, 0, 61), (5, 0, 0, 62), (37, 26, 9, 63), (3, 6, 0, 64), (2, 0, 8, 65), (10, 0, 0, 66), (43, 0, 0, 67), (3, 3, 0, 68), (33, 71, 4, 69), (2, 0, 1, 70), (31, 72, 0, 71), (2, 0, 0, 72), (6, 7, 0, 73), (3, 7, 0, 74), (32, 129, 1, 75), (5, 0, 0, 76), (3, 5, 0, 77), (1, 110, 2, 78), (6, 8, 0, 79), (5, 0, 0, 80), (37, 40, 9, 81), (3, 5, 0, 82), (5, 0, 0, 83), (5, 0, 0, 84), (37, 26, 9, 85), (3, 6, 0, 86), (2, 0, 0, 87), (10, 0, 0, 88), (43, 0, 0, 89), (5, 0, 0, 90), (37, 26, 9, 91), (3, 6, 0, 92), (2, 0, 1, 93), (10, 0, 0, 94), (43, 0, 0, 95), (5, 0, 0, 96), (37, 26, 9, 97), (3, 6, 0, 98), (2, 0, 2, 99), (10, 0, 0, 100), (43, 0, 0, 101), (3, 8, 0, 102), (1, 112, 5, 103), (48, 0, 0, 104), (5, 0, 0, 105), (37, 40, 9, 106), (3, 5, 0, 107), (43, 0, 0, 108), (32, 129, 1, 109), (5, 0, 0, 110), (5, 0, 0, 111), (37, 26, 9, 112), (3, 6, 0, 113), (2, 0, 0, 114), (10, 0, 0, 115), (43, 0, 0, 116), (5, 0, 0, 117), (37, 26, 9, 118), (3, 6, 0, 119), (2, 0, 1, 120), (10, 0, 0, 121), (43, 0, 0, 122), (5, 0, 0, 123), (37, 26, 9, 124), (3, 6, 0, 125), (2, 0, 2, 126), (10, 0, 0, 127), (43, 0, 0, 128), (1, 113, 4, 129), (3, 4, 0, 130), (2, 0, -1, 131), (33, 133, 1, 132), (31, 161, 0, 133), (5, 0, 0, 134), (37, 36, 9, 135), (3, 4, 0, 136), (43, 0, 0, 137), (32, 145, 3, 138), (5, 0, 0, 139), (35, 41, 9, 140), (2, 0, -2, 141), (33, 145, 1, 142), (5, 0, 0, 143), (3, 5, 0, 144), (38, 41, 9, 145), (5, 0, 0, 146), (37, 36, 9, 147), (3, 4, 0, 148), (43, 0, 0, 149), (5, 0, 0, 150), (35, 42, 9, 151), (33, 161, 5, 152), (5, 0, 0, 153), (5, 0, 0, 154), (37, 36, 9, 155), (3, 4, 0, 156), (43, 0, 0, 157), (38, 42, 9, 158), (5, 0, 0, 159), (3, 5, 0, 160), (38, 43, 9, 161), (9, 5, 1, 162), (31, 38, 0, 163), (0, 0, 0, 164)]
/-- EventLedgerModel.replaysAll ()V -/
def ab_c115 : List ab_O := [(5, 0, 0, 1), (5, 0, 0, 2), (1, 95, 1, 3), (2, 0, -1, 4), (2, 0, 120, 5), (2, 0, -1, 6), (1, 114, 5, 7), (0, 0, 0, 8)]
/-- EventLedgerModel.asidesNow ()I -/
def ab_c116 : List ab_O := [(2, 0, 0, 1), (6, 1, 0, 2), (2, 0, 0, 3), (6, 2, 0, 4), (3, 2, 0, 5), (5, 0, 0, 6), (1, 95, 1, 7), (33, 21, 3, 8), (3, 1, 0, 9), (5, 0, 0, 10), (37, 40, 9, 11), (3, 2, 0, 12), (43, 0, 0, 13), (32, 16, 0, 14), (2, 0, 1, 15), (31, 17, 0, 16), (2, 0, 0, 17), (10, 0, 0, 18), (6, 1, 0, 19), (9, 2, 1, 20), (31, 4, 0, 21), (3, 1, 0, 22), (0, 1, 0, 23)]
/-- EventLedgerModel.isAccount (I)Z -/
def ab_c117 : List ab_O := [(3, 1, 0, 1), (32, 8, 2, 2), (3, 1, 0, 3), (5, 0, 0, 4), (1, 91, 1, 5), (33, 8, 3, 6), (2, 0, 1, 7), (31, 9, 0, 8), (2, 0, 0, 9), (0, 2, 0, 10)]
/-- EventLedgerModel.isTime (I)Z -/
def ab_c118 : List ab_O := [(3, 0, 0, 1), (32, 7, 2, 2), (3, 0, 0, 3), (2, 0, 9999, 4), (33, 7, 4, 5), (2, 0, 1, 6), (31, 8, 0, 7), (2, 0, 0, 8), (0, 2, 0, 9)]
/-- EventLedgerModel.has (II)I -/
def ab_c119 : List ab_O := [(3, 2, 0, 1), (34, 6, 0, 2), (5, 0, 0, 3), (37, 36, 9, 4), (3, 1, 0, 5), (43, 0, 0, 6), (0, 1, 0, 7), (5, 0, 0, 8), (37, 37, 9, 9), (3, 1, 0, 10), (43, 0, 0, 11), (0, 1, 0, 12), (5, 0, 0, 13), (37, 38, 9, 14), (3, 1, 0, 15), (43, 0, 0, 16), (0, 1, 0, 17), (5, 0, 0, 18), (37, 39, 9, 19), (3, 1, 0, 20), (45, 0, 0, 21), (32, 24, 0, 22), (2, 0, 1, 23), (31, 25, 0, 24), (2, 0, 0, 25), (0, 1, 0, 26)]
/-- EventLedgerModel.placeAt (I)I -/
def ab_c120 : List ab_O := [(2, 0, 0, 1), (6, 2, 0, 2), (3, 2, 0, 3), (5, 0, 0, 4), (1, 95, 1, 5), (33, 18, 3, 6), (5, 0, 0, 7), (37, 26, 9, 8), (2, 0, 9, 9), (3, 2, 0, 10), (12, 0, 0, 11), (2, 0, 3, 12), (10, 0, 0, 13), (43, 0, 0, 14), (3, 1, 0, 15), (33, 18, 4, 16), (9, 2, 1, 17), (31, 2, 0, 18), (3, 2, 0, 19), (0, 1, 0, 20)]
/-- EventLedgerModel.latestTime ()I -/
def ab_c121 : List ab_O := [(5, 0, 0, 1), (1, 95, 1, 2), (32, 5, 1, 3), (2, 0, 0, 4), (31, 16, 0, 5), (5, 0, 0, 6), (37, 26, 9, 7), (2, 0, 9, 8), (5, 0, 0, 9), (1, 95, 1, 10), (2, 0, 1, 11), (11, 0, 0, 12), (12, 0, 0, 13), (2, 0, 3, 14), (10, 0, 0, 15), (43, 0, 0, 16), (0, 1, 0, 17)]
/-- EventLedgerModel.eventOf (IIIIIII)I -/
def ab_c122 : List ab_O := [(3, 1, 0, 1), (2, 0, 6, 2), (33, 5, 1, 3), (2, 0, 1, 4), (31, 6, 0, 5), (2, 0, 0, 6), (6, 8, 0, 7), (3, 1, 0, 8), (32, 25, 2, 9), (3, 1, 0, 10), (2, 0, 6, 11), (33, 25, 4, 12), (5, 0, 0, 13), (3, 2, 0, 14), (1, 117, 2, 15), (32, 25, 0, 16), (3, 8, 0, 17), (32, 27, 0, 18), (5, 0, 0, 19), (3, 3, 0, 20), (1, 117, 2, 21), (32, 25, 0, 22), (3, 3, 0, 23), (3, 2, 0, 24), (33, 27, 1, 25), (2, 0, -1, 26), (0, 1, 0, 27), (3, 4, 0, 28), (1, 118, 1, 29), (32, 40, 0, 30), (3, 6, 0, 31), (32, 40, 2, 32), (3, 6, 0, 33), (2, 0, 99999, 34), (33, 40, 4, 35), (3, 7, 0, 36), (32, 40, 2, 37), (3, 7, 0, 38), (2, 0, 99999, 39), (33, 42, 5, 40), (2, 0, -1, 41), (0, 1, 0, 42), (3, 4, 0, 43), (5, 0, 0, 44), (1, 121, 1, 45), (33, 48, 3, 46), (2, 0, -2, 47), (0, 1, 0, 48), (5, 0, 0, 49), (1, 95, 1, 50), (2, 0, 120, 51), (33, 54, 1, 52), (2, 0, -3, 53), (0, 1, 0, 54), (5, 0, 0, 55), (1, 97, 1, 56), (5, 0, 0, 57), (3, 1, 0, 58), (3, 2, 0, 59), (3, 8, 0, 60), (32, 63, 0, 61), (3, 3, 0, 62), (31, 64, 0, 63), (2, 0, -2, 64), (3, 4, 0, 65), (3, 5, 0, 66), (1, 109, 6, 67), (5, 0, 0, 68), (1, 95, 1, 69), (2, 0, 1, 70), (11, 0, 0, 71), (6, 9, 0, 72), (5, 0, 0, 73), (37, 26, 9, 74), (2, 0, 9, 75), (3, 9, 0, 76), (12, 0, 0, 77), (2, 0, 5, 78), (10, 0, 0, 79), (3, 6, 0, 80), (48, 0, 0, 81), (5, 0, 0, 82), (37, 26, 9, 83), (2, 0, 9, 84), (3, 9, 0, 85), (12, 0, 0, 86), (2, 0, 5, 87), (10, 0, 0, 88), (2, 0, 1, 89), (10, 0, 0, 90), (3, 7, 0, 91), (48, 0, 0, 92), (3, 9, 0, 93), (0, 1, 0, 94)]
/-- EventLedgerModel.event (IIIIII)I -/
def ab_c123 : List ab_O := [(5, 0, 0, 1), (2, 0, 0, 2), (38, 0, 9, 3), (5, 0, 0, 4), (3, 1, 0, 5), (3, 2, 0, 6), (3, 3, 0, 7), (3, 4, 0, 8), (2, 0, 3, 9), (3, 5, 0, 10), (3, 6, 0, 11), (1, 122, 8, 12), (0, 1, 0, 13)]
/-- EventLedgerModel.old (IIIII)I -/
def ab_c124 : List ab_O := [(5, 0, 0, 1), (2, 0, 0, 2), (38, 0, 9, 3), (5, 0, 0, 4), (3, 1, 0, 5), (3, 2, 0, 6), (3, 3, 0, 7), (3, 4, 0, 8), (2, 0, 1, 9), (3, 5, 0, 10), (2, 0, 0, 11), (1, 122, 8, 12), (0, 1, 0, 13)]
/-- EventLedgerModel.isEvent (I)Z -/
def ab_c125 : List ab_O := [(3, 1, 0, 1), (32, 8, 2, 2), (3, 1, 0, 3), (5, 0, 0, 4), (1, 95, 1, 5), (33, 8, 3, 6), (2, 0, 1, 7), (31, 9, 0, 8), (2, 0, 0, 9), (0, 2, 0, 10)]
/-- EventLedgerModel.revoke (II)I -/
def ab_c126 : List ab_O := [(5, 0, 0, 1), (2, 0, 0, 2), (38, 0, 9, 3), (5, 0, 0, 4), (3, 1, 0, 5), (1, 125, 2, 6), (32, 18, 0, 7), (3, 2, 0, 8), (1, 118, 1, 9), (32, 18, 0, 10), (5, 0, 0, 11), (3, 1, 0, 12), (1, 101, 2, 13), (32, 18, 1, 14), (5, 0, 0, 15), (3, 1, 0, 16), (1, 102, 2, 17), (32, 20, 0, 18), (2, 0, -1, 19), (0, 1, 0, 20), (3, 2, 0, 21), (5, 0, 0, 22), (1, 121, 1, 23), (33, 26, 3, 24), (2, 0, -2, 25), (0, 1, 0, 26), (5, 0, 0, 27), (1, 95, 1, 28), (2, 0, 120, 29), (33, 32, 1, 30), (2, 0, -3, 31), (0, 1, 0, 32), (5, 0, 0, 33), (1, 97, 1, 34), (5, 0, 0, 35), (2, 0, 7, 36), (2, 0, -2, 37), (3, 1, 0, 38), (3, 2, 0, 39), (2, 0, 0, 40), (1, 109, 6, 41), (5, 0, 0, 42), (1, 95, 1, 43), (2, 0, 1, 44), (11, 0, 0, 45), (0, 1, 0, 46)]
/-- EventLedgerModel.of (II)I -/
def ab_c127 : List ab_O := [(5, 0, 0, 1), (2, 0, 0, 2), (38, 0, 9, 3), (5, 0, 0, 4), (3, 1, 0, 5), (1, 125, 2, 6), (32, 12, 1, 7), (5, 0, 0, 8), (2, 0, 1, 9), (38, 0, 9, 10), (2, 0, 0, 11), (0, 1, 0, 12), (2, 0, 9, 13), (3, 1, 0, 14), (12, 0, 0, 15), (6, 3, 0, 16), (3, 2, 0, 17), (34, 7, 0, 18), (5, 0, 0, 19), (37, 26, 9, 20), (3, 3, 0, 21), (2, 0, 0, 22), (10, 0, 0, 23), (43, 0, 0, 24), (0, 1, 0, 25), (5, 0, 0, 26), (37, 26, 9, 27), (3, 3, 0, 28), (2, 0, 1, 29), (10, 0, 0, 30), (43, 0, 0, 31), (0, 1, 0, 32), (5, 0, 0, 33), (37, 26, 9, 34), (3, 3, 0, 35), (2, 0, 2, 36), (10, 0, 0, 37), (43, 0, 0, 38), (0, 1, 0, 39), (5, 0, 0, 40), (37, 26, 9, 41), (3, 3, 0, 42), (2, 0, 3, 43), (10, 0, 0, 44), (43, 0, 0, 45), (0, 1, 0, 46), (5, 0, 0, 47), (37, 26, 9, 48), (3, 3, 0, 49), (2, 0, 4, 50), (10, 0, 0, 51), (43, 0, 0, 52), (0, 1, 0, 53), (5, 0, 0, 54), (1, 115, 1, 55), (5, 0, 0, 56), (37, 40, 9, 57), (3, 1, 0, 58), (43, 0, 0, 59), (0, 1, 0, 60), (5, 0, 0, 61), (3, 1, 0, 62), (1, 102, 2, 63), (32, 66, 0, 64), (2, 0, 1, 65), (31, 67, 0, 66), (2, 0, 0, 67), (0, 1, 0, 68), (5, 0, 0, 69), (3, 1, 0, 70), (1, 103, 2, 71), (0, 1, 0, 72), (5, 0, 0, 73), (2, 0, 2, 74), (38, 0, 9, 75), (2, 0, 0, 76), (0, 1, 0, 77)]
/-- EventLedgerModel.field (IIZ)I -/
def ab_c128 : List ab_O := [(5, 0, 0, 1), (2, 0, 0, 2), (38, 0, 9, 3), (5, 0, 0, 4), (3, 1, 0, 5), (1, 125, 2, 6), (32, 17, 0, 7), (3, 2, 0, 8), (2, 0, 1, 9), (33, 17, 2, 10), (3, 2, 0, 11), (2, 0, 3, 12), (33, 17, 4, 13), (5, 0, 0, 14), (3, 1, 0, 15), (1, 101, 2, 16), (32, 19, 0, 17), (2, 0, -1, 18), (0, 1, 0, 19), (3, 3, 0, 20), (32, 34, 1, 21), (5, 0, 0, 22), (37, 26, 9, 23), (2, 0, 9, 24), (3, 1, 0, 25), (12, 0, 0, 26), (2, 0, 5, 27), (10, 0, 0, 28), (3, 2, 0, 29), (10, 0, 0, 30), (2, 0, 1, 31), (11, 0, 0, 32), (43, 0, 0, 33), (0, 1, 0, 34), (5, 0, 0, 35), (3, 1, 0, 36), (1, 110, 2, 37), (30, 0, 0, 38), (5, 0, 0, 39), (37, 33, 9, 40), (3, 2, 0, 41), (2, 0, 1, 42), (11, 0, 0, 43), (43, 0, 0, 44), (0, 1, 0, 45)]
/-- EventLedgerModel.isWhat (I)Z -/
def ab_c129 : List ab_O := [(3, 0, 0, 1), (32, 7, 2, 2), (3, 0, 0, 3), (2, 0, 3, 4), (33, 7, 4, 5), (2, 0, 1, 6), (31, 8, 0, 7), (2, 0, 0, 8), (0, 2, 0, 9)]
/-- EventLedgerModel.account (II)I -/
def ab_c130 : List ab_O := [(5, 0, 0, 1), (2, 0, 0, 2), (38, 0, 9, 3), (5, 0, 0, 4), (3, 1, 0, 5), (1, 117, 2, 6), (32, 10, 0, 7), (3, 2, 0, 8), (1, 129, 1, 9), (32, 12, 1, 10), (2, 0, -2147483648, 11), (0, 1, 0, 12), (5, 0, 0, 13), (1, 115, 1, 14), (5, 0, 0, 15), (3, 1, 0, 16), (3, 2, 0, 17), (1, 119, 3, 18), (0, 1, 0, 19)]
/-- EventLedgerModel.at (III)I -/
def ab_c131 : List ab_O := [(5, 0, 0, 1), (2, 0, 0, 2), (38, 0, 9, 3), (3, 1, 0, 4), (1, 118, 1, 5), (32, 13, 0, 6), (5, 0, 0, 7), (3, 2, 0, 8), (1, 117, 2, 9), (32, 13, 0, 10), (3, 3, 0, 11), (1, 129, 1, 12), (32, 15, 1, 13), (2, 0, -2147483648, 14), (0, 1, 0, 15), (5, 0, 0, 16), (5, 0, 0, 17), (3, 1, 0, 18), (1, 120, 2, 19), (2, 0, -1, 20), (2, 0, 120, 21), (2, 0, -1, 22), (1, 114, 5, 23), (5, 0, 0, 24), (3, 2, 0, 25), (3, 3, 0, 26), (1, 119, 3, 27), (0, 1, 0, 28)]
/-- EventLedgerModel.known (III)I -/
def ab_c132 : List ab_O := [(5, 0, 0, 1), (2, 0, 0, 2), (38, 0, 9, 3), (3, 1, 0, 4), (1, 118, 1, 5), (32, 13, 0, 6), (5, 0, 0, 7), (3, 2, 0, 8), (1, 117, 2, 9), (32, 13, 0, 10), (3, 3, 0, 11), (1, 129, 1, 12), (32, 15, 1, 13), (2, 0, -2147483648, 14), (0, 1, 0, 15), (5, 0, 0, 16), (3, 1, 0, 17), (1, 120, 2, 18), (6, 4, 0, 19), (5, 0, 0, 20), (3, 4, 0, 21), (2, 0, -1, 22), (3, 4, 0, 23), (2, 0, -1, 24), (1, 114, 5, 25), (5, 0, 0, 26), (3, 2, 0, 27), (3, 3, 0, 28), (1, 119, 3, 29), (0, 1, 0, 30)]
/-- EventLedgerModel.costOf (I)I -/
def ab_c133 : List ab_O := [(2, 0, 0, 1), (6, 2, 0, 2), (2, 0, 0, 3), (6, 3, 0, 4), (3, 3, 0, 5), (5, 0, 0, 6), (37, 26, 9, 7), (2, 0, 1081, 8), (43, 0, 0, 9), (33, 23, 3, 10), (5, 0, 0, 11), (3, 3, 0, 12), (1, 105, 2, 13), (3, 1, 0, 14), (33, 19, 4, 15), (5, 0, 0, 16), (3, 3, 0, 17), (1, 105, 2, 18), (31, 20, 0, 19), (3, 2, 0, 20), (6, 2, 0, 21), (9, 3, 1, 22), (31, 4, 0, 23), (5, 0, 0, 24), (3, 2, 0, 25), (3, 1, 0, 26), (1, 104, 3, 27), (0, 1, 0, 28)]
/-- EventLedgerModel.cost (I)I -/
def ab_c134 : List ab_O := [(5, 0, 0, 1), (2, 0, 0, 2), (38, 0, 9, 3), (3, 1, 0, 4), (32, 13, 2, 5), (3, 1, 0, 6), (5, 0, 0, 7), (1, 95, 1, 8), (33, 13, 4, 9), (5, 0, 0, 10), (3, 1, 0, 11), (1, 133, 2, 12), (31, 14, 0, 13), (2, 0, -1, 14), (0, 1, 0, 15)]
/-- EventLedgerModel.costAt (I)I -/
def ab_c135 : List ab_O := [(5, 0, 0, 1), (2, 0, 0, 2), (38, 0, 9, 3), (3, 1, 0, 4), (1, 118, 1, 5), (32, 12, 0, 6), (5, 0, 0, 7), (5, 0, 0, 8), (3, 1, 0, 9), (1, 120, 2, 10), (1, 133, 2, 11), (31, 13, 0, 12), (2, 0, -1, 13), (0, 1, 0, 14)]
/-- EventLedgerModel.snapshot (I)I -/
def ab_c136 : List ab_O := [(5, 0, 0, 1), (2, 0, 0, 2), (38, 0, 9, 3), (3, 1, 0, 4), (32, 7, 3, 5), (2, 0, -1, 6), (31, 18, 0, 7), (3, 1, 0, 8), (5, 0, 0, 9), (37, 26, 9, 10), (2, 0, 1081, 11), (43, 0, 0, 12), (33, 17, 3, 13), (5, 0, 0, 14), (3, 1, 0, 15), (1, 105, 2, 16), (31, 18, 0, 17), (2, 0, -2, 18), (0, 1, 0, 19)]
/-- EventLedgerModel.inSnapshot (III)I -/
def ab_c137 : List ab_O := [(5, 0, 0, 1), (2, 0, 0, 2), (38, 0, 9, 3), (3, 1, 0, 4), (32, 18, 2, 5), (3, 1, 0, 6), (5, 0, 0, 7), (37, 26, 9, 8), (2, 0, 1081, 9), (43, 0, 0, 10), (33, 18, 3, 11), (5, 0, 0, 12), (3, 2, 0, 13), (1, 117, 2, 14), (32, 18, 0, 15), (3, 3, 0, 16), (1, 129, 1, 17), (32, 20, 1, 18), (2, 0, -2147483648, 19), (0, 1, 0, 20), (5, 0, 0, 21), (5, 0, 0, 22), (3, 1, 0, 23), (1, 105, 2, 24), (2, 0, -1, 25), (2, 0, 120, 26), (2, 0, -1, 27), (1, 114, 5, 28), (5, 0, 0, 29), (3, 2, 0, 30), (3, 3, 0, 31), (1, 119, 3, 32), (0, 1, 0, 33)]
/-- EventLedgerModel.costsWith (I)I -/
def ab_c138 : List ab_O := [(2, 0, 0, 1), (6, 2, 0, 2), (2, 0, 0, 3), (6, 3, 0, 4), (3, 3, 0, 5), (5, 0, 0, 6), (1, 95, 1, 7), (33, 33, 4, 8), (5, 0, 0, 9), (3, 3, 0, 10), (1, 133, 2, 11), (6, 4, 0, 12), (3, 1, 0, 13), (3, 3, 0, 14), (33, 20, 4, 15), (5, 0, 0, 16), (3, 1, 0, 17), (3, 3, 0, 18), (1, 104, 3, 19), (31, 21, 0, 20), (3, 4, 0, 21), (6, 5, 0, 22), (3, 2, 0, 23), (3, 5, 0, 24), (3, 4, 0, 25), (33, 28, 3, 26), (3, 5, 0, 27), (31, 29, 0, 28), (3, 4, 0, 29), (10, 0, 0, 30), (6, 2, 0, 31), (9, 3, 1, 32), (31, 4, 0, 33), (3, 2, 0, 34), (0, 1, 0, 35)]
/-- EventLedgerModel.bestPlace (I)I -/
def ab_c139 : List ab_O := [(5, 0, 0, 1), (2, 0, 0, 2), (38, 0, 9, 3), (3, 1, 0, 4), (32, 8, 2, 5), (3, 1, 0, 6), (2, 0, 1, 7), (33, 10, 5, 8), (2, 0, -1, 9), (0, 1, 0, 10), (2, 0, 0, 11), (6, 2, 0, 12), (5, 0, 0, 13), (2, 0, 0, 14), (1, 138, 2, 15), (6, 3, 0, 16), (2, 0, 1, 17), (6, 4, 0, 18), (3, 4, 0, 19), (5, 0, 0, 20), (1, 95, 1, 21), (33, 36, 4, 22), (5, 0, 0, 23), (3, 4, 0, 24), (1, 138, 2, 25), (6, 5, 0, 26), (3, 5, 0, 27), (3, 3, 0, 28), (33, 30, 2, 29), (31, 34, 0, 30), (3, 4, 0, 31), (6, 2, 0, 32), (3, 5, 0, 33), (6, 3, 0, 34), (9, 4, 1, 35), (31, 18, 0, 36), (3, 1, 0, 37), (32, 40, 1, 38), (3, 2, 0, 39), (31, 41, 0, 40), (3, 3, 0, 41), (0, 1, 0, 42)]
/-- EventLedgerModel.resnap (II)I -/
def ab_c140 : List ab_O := [(5, 0, 0, 1), (2, 0, 0, 2), (38, 0, 9, 3), (3, 1, 0, 4), (2, 0, 1, 5), (33, 14, 2, 6), (3, 1, 0, 7), (2, 0, 999, 8), (33, 14, 4, 9), (3, 2, 0, 10), (32, 14, 2, 11), (3, 2, 0, 12), (2, 0, 6, 13), (33, 16, 5, 14), (2, 0, -1, 15), (0, 1, 0, 16), (5, 0, 0, 17), (1, 97, 1, 18), (5, 0, 0, 19), (37, 26, 9, 20), (2, 0, 1089, 21), (3, 1, 0, 22), (48, 0, 0, 23), (5, 0, 0, 24), (37, 26, 9, 25), (2, 0, 1090, 26), (3, 2, 0, 27), (48, 0, 0, 28), (5, 0, 0, 29), (37, 26, 9, 30), (2, 0, 1081, 31), (2, 0, 0, 32), (48, 0, 0, 33), (2, 0, 0, 34), (6, 3, 0, 35), (3, 3, 0, 36), (5, 0, 0, 37), (1, 95, 1, 38), (33, 60, 3, 39), (5, 0, 0, 40), (3, 3, 0, 41), (1, 101, 2, 42), (32, 53, 0, 43), (5, 0, 0, 44), (5, 0, 0, 45), (37, 26, 9, 46), (2, 0, 9, 47), (3, 3, 0, 48), (12, 0, 0, 49), (2, 0, 2, 50), (10, 0, 0, 51), (43, 0, 0, 52), (1, 108, 2, 53), (5, 0, 0, 54), (3, 3, 0, 55), (2, 0, 1, 56), (10, 0, 0, 57), (1, 107, 2, 58), (9, 3, 1, 59), (31, 35, 0, 60), (5, 0, 0, 61), (37, 26, 9, 62), (2, 0, 1081, 63), (43, 0, 0, 64), (0, 1, 0, 65)]
/-- EventLedgerModel.aside (I)I -/
def ab_c141 : List ab_O := [(5, 0, 0, 1), (2, 0, 0, 2), (38, 0, 9, 3), (3, 1, 0, 4), (32, 7, 3, 5), (2, 0, -1, 6), (0, 1, 0, 7), (5, 0, 0, 8), (1, 115, 1, 9), (3, 1, 0, 10), (6, 2, 0, 11), (2, 0, 0, 12), (6, 3, 0, 13), (3, 3, 0, 14), (5, 0, 0, 15), (1, 95, 1, 16), (33, 30, 3, 17), (5, 0, 0, 18), (37, 40, 9, 19), (3, 3, 0, 20), (43, 0, 0, 21), (32, 23, 1, 22), (31, 28, 0, 23), (3, 2, 0, 24), (32, 27, 1, 25), (3, 3, 0, 26), (0, 1, 0, 27), (9, 2, -1, 28), (9, 3, 1, 29), (31, 13, 0, 30), (2, 0, -2, 31), (0, 1, 0, 32)]
/-- EventLedgerModel.blame (I)I -/
def ab_c142 : List ab_O := [(5, 0, 0, 1), (2, 0, 0, 2), (38, 0, 9, 3), (5, 0, 0, 4), (3, 1, 0, 5), (1, 125, 2, 6), (32, 9, 1, 7), (2, 0, -1, 8), (0, 1, 0, 9), (5, 0, 0, 10), (1, 115, 1, 11), (5, 0, 0, 12), (37, 40, 9, 13), (3, 1, 0, 14), (43, 0, 0, 15), (32, 18, 1, 16), (2, 0, -1, 17), (0, 1, 0, 18), (2, 0, 0, 19), (6, 2, 0, 20), (3, 2, 0, 21), (3, 1, 0, 22), (33, 49, 3, 23), (5, 0, 0, 24), (3, 2, 0, 25), (1, 101, 2, 26), (32, 47, 1, 27), (5, 0, 0, 28), (3, 2, 0, 29), (1, 102, 2, 30), (32, 32, 0, 31), (31, 47, 0, 32), (5, 0, 0, 33), (3, 1, 0, 34), (2, 0, 1, 35), (10, 0, 0, 36), (3, 2, 0, 37), (2, 0, 120, 38), (2, 0, -1, 39), (1, 114, 5, 40), (5, 0, 0, 41), (37, 40, 9, 42), (3, 1, 0, 43), (43, 0, 0, 44), (32, 47, 1, 45), (3, 2, 0, 46), (0, 1, 0, 47), (9, 2, 1, 48), (31, 20, 0, 49), (2, 0, -2, 50), (0, 1, 0, 51)]
/-- EventLedgerModel.without (II)I -/
def ab_c143 : List ab_O := [(5, 0, 0, 1), (2, 0, 0, 2), (38, 0, 9, 3), (5, 0, 0, 4), (3, 1, 0, 5), (1, 125, 2, 6), (32, 15, 0, 7), (5, 0, 0, 8), (3, 1, 0, 9), (1, 101, 2, 10), (32, 15, 1, 11), (5, 0, 0, 12), (3, 2, 0, 13), (1, 117, 2, 14), (32, 17, 1, 15), (2, 0, -2147483648, 16), (0, 1, 0, 17), (5, 0, 0, 18), (5, 0, 0, 19), (1, 95, 1, 20), (3, 1, 0, 21), (2, 0, 120, 22), (2, 0, -1, 23), (1, 114, 5, 24), (5, 0, 0, 25), (37, 36, 9, 26), (3, 2, 0, 27), (43, 0, 0, 28), (0, 1, 0, 29)]
/-- EventLedgerModel.touches (I)I -/
def ab_c144 : List ab_O := [(5, 0, 0, 1), (2, 0, 0, 2), (38, 0, 9, 3), (5, 0, 0, 4), (3, 1, 0, 5), (1, 125, 2, 6), (32, 11, 0, 7), (5, 0, 0, 8), (3, 1, 0, 9), (1, 101, 2, 10), (32, 13, 0, 11), (2, 0, -1, 12), (0, 1, 0, 13), (5, 0, 0, 14), (1, 115, 1, 15), (2, 0, 0, 16), (6, 2, 0, 17), (3, 2, 0, 18), (5, 0, 0, 19), (1, 95, 1, 20), (33, 31, 3, 21), (5, 0, 0, 22), (37, 44, 9, 23), (3, 2, 0, 24), (5, 0, 0, 25), (37, 40, 9, 26), (3, 2, 0, 27), (43, 0, 0, 28), (48, 0, 0, 29), (9, 2, 1, 30), (31, 17, 0, 31), (5, 0, 0, 32), (5, 0, 0, 33), (1, 95, 1, 34), (3, 1, 0, 35), (2, 0, 120, 36), (2, 0, -1, 37), (1, 114, 5, 38), (2, 0, 0, 39), (6, 2, 0, 40), (2, 0, 0, 41), (6, 3, 0, 42), (3, 3, 0, 43), (5, 0, 0, 44), (1, 95, 1, 45), (33, 66, 3, 46), (3, 2, 0, 47), (3, 3, 0, 48), (3, 1, 0, 49), (33, 61, 0, 50), (5, 0, 0, 51), (37, 44, 9, 52), (3, 3, 0, 53), (43, 0, 0, 54), (5, 0, 0, 55), (37, 40, 9, 56), (3, 3, 0, 57), (43, 0, 0, 58), (33, 61, 0, 59), (2, 0, 1, 60), (31, 62, 0, 61), (2, 0, 0, 62), (10, 0, 0, 63), (6, 2, 0, 64), (9, 3, 1, 65), (31, 42, 0, 66), (3, 2, 0, 67), (0, 1, 0, 68)]
/-- EventLedgerModel.firstBelow (I)I -/
def ab_c145 : List ab_O := [(5, 0, 0, 1), (2, 0, 0, 2), (38, 0, 9, 3), (5, 0, 0, 4), (3, 1, 0, 5), (1, 117, 2, 6), (32, 9, 1, 7), (2, 0, -1, 8), (0, 1, 0, 9), (5, 0, 0, 10), (5, 0, 0, 11), (1, 95, 1, 12), (2, 0, -1, 13), (2, 0, 120, 14), (3, 1, 0, 15), (1, 114, 5, 16), (5, 0, 0, 17), (35, 41, 9, 18), (0, 1, 0, 19)]
/-- EventLedgerModel.peak (II)I -/
def ab_c146 : List ab_O := [(5, 0, 0, 1), (2, 0, 0, 2), (38, 0, 9, 3), (5, 0, 0, 4), (3, 1, 0, 5), (1, 117, 2, 6), (32, 12, 0, 7), (3, 2, 0, 8), (32, 12, 2, 9), (3, 2, 0, 10), (2, 0, 1, 11), (33, 14, 5, 12), (2, 0, -2147483648, 13), (0, 1, 0, 14), (5, 0, 0, 15), (5, 0, 0, 16), (1, 95, 1, 17), (2, 0, -1, 18), (2, 0, 120, 19), (3, 1, 0, 20), (1, 114, 5, 21), (3, 2, 0, 22), (32, 26, 1, 23), (5, 0, 0, 24), (35, 42, 9, 25), (31, 28, 0, 26), (5, 0, 0, 27), (35, 43, 9, 28), (0, 1, 0, 29)]
/-- EventLedgerModel.ifPlain (II)I -/
def ab_c147 : List ab_O := [(5, 0, 0, 1), (2, 0, 0, 2), (38, 0, 9, 3), (3, 1, 0, 4), (32, 14, 2, 5), (3, 1, 0, 6), (2, 0, 6, 7), (33, 14, 4, 8), (3, 2, 0, 9), (2, 0, 1, 10), (33, 14, 2, 11), (3, 2, 0, 12), (2, 0, 2, 13), (33, 16, 5, 14), (2, 0, -1, 15), (0, 1, 0, 16), (5, 0, 0, 17), (3, 1, 0, 18), (38, 34, 9, 19), (5, 0, 0, 20), (3, 2, 0, 21), (38, 35, 9, 22), (5, 0, 0, 23), (1, 115, 1, 24), (5, 0, 0, 25), (2, 0, -1, 26), (38, 34, 9, 27), (5, 0, 0, 28), (1, 116, 1, 29), (0, 1, 0, 30)]
/-- EventLedgerModel.isTally (I)Z -/
def ab_c148 : List ab_O := [(3, 1, 0, 1), (32, 8, 2, 2), (3, 1, 0, 3), (5, 0, 0, 4), (1, 92, 1, 5), (33, 8, 3, 6), (2, 0, 1, 7), (31, 9, 0, 8), (2, 0, 0, 9), (0, 2, 0, 10)]
/-- EventLedgerModel.tallyAt (I)I -/
def ab_c149 : List ab_O := [(2, 0, 1091, 1), (2, 0, 129, 2), (3, 0, 0, 3), (12, 0, 0, 4), (10, 0, 0, 5), (0, 1, 0, 6)]
/-- EventLedgerModel.counts (II)I -/
def ab_c150 : List ab_O := [(5, 0, 0, 1), (3, 2, 0, 2), (1, 101, 2, 3), (32, 26, 1, 4), (5, 0, 0, 5), (3, 2, 0, 6), (1, 102, 2, 7), (32, 26, 1, 8), (5, 0, 0, 9), (37, 26, 9, 10), (2, 0, 9, 11), (3, 2, 0, 12), (12, 0, 0, 13), (2, 0, 0, 14), (10, 0, 0, 15), (43, 0, 0, 16), (5, 0, 0, 17), (37, 6, 9, 18), (3, 1, 0, 19), (43, 0, 0, 20), (33, 26, 1, 21), (5, 0, 0, 22), (37, 40, 9, 23), (3, 2, 0, 24), (43, 0, 0, 25), (32, 28, 0, 26), (2, 0, 0, 27), (0, 1, 0, 28), (5, 0, 0, 29), (3, 2, 0, 30), (1, 110, 2, 31), (30, 0, 0, 32), (5, 0, 0, 33), (37, 33, 9, 34), (5, 0, 0, 35), (37, 7, 9, 36), (3, 1, 0, 37), (43, 0, 0, 38), (2, 0, 1, 39), (11, 0, 0, 40), (43, 0, 0, 41), (2, 0, 1, 42), (10, 0, 0, 43), (0, 1, 0, 44)]
/-- EventLedgerModel.sees (II)V -/
def ab_c151 : List ab_O := [(3, 1, 0, 1), (1, 149, 1, 2), (6, 3, 0, 3), (5, 0, 0, 4), (3, 2, 0, 5), (1, 101, 2, 6), (32, 45, 1, 7), (5, 0, 0, 8), (3, 1, 0, 9), (3, 2, 0, 10), (1, 150, 3, 11), (6, 4, 0, 12), (5, 0, 0, 13), (37, 26, 9, 14), (3, 3, 0, 15), (2, 0, 9, 16), (10, 0, 0, 17), (3, 2, 0, 18), (10, 0, 0, 19), (3, 4, 0, 20), (48, 0, 0, 21), (3, 4, 0, 22), (32, 44, 5, 23), (5, 0, 0, 24), (37, 26, 9, 25), (3, 3, 0, 26), (2, 0, 1, 27), (10, 0, 0, 28), (5, 0, 0, 29), (37, 26, 9, 30), (2, 0, 9, 31), (3, 2, 0, 32), (12, 0, 0, 33), (2, 0, 1, 34), (10, 0, 0, 35), (43, 0, 0, 36), (10, 0, 0, 37), (29, 0, 0, 38), (43, 0, 0, 39), (3, 4, 0, 40), (2, 0, 1, 41), (11, 0, 0, 42), (10, 0, 0, 43), (48, 0, 0, 44), (0, 0, 0, 45), (5, 0, 0, 46), (37, 26, 9, 47), (2, 0, 9, 48), (3, 2, 0, 49), (12, 0, 0, 50), (2, 0, 2, 51), (10, 0, 0, 52), (43, 0, 0, 53), (6, 4, 0, 54), (5, 0, 0, 55), (37, 26, 9, 56), (3, 3, 0, 57), (2, 0, 9, 58), (10, 0, 0, 59), (3, 4, 0, 60), (10, 0, 0, 61), (43, 0, 0, 62), (32, 64, 1, 63), (0, 0, 0, 64), (5, 0, 0, 65), (37, 26, 9, 66), (3, 3, 0, 67), (2, 0, 1, 68), (10, 0, 0, 69), (5, 0, 0, 70), (37, 26, 9, 71), (2, 0, 9, 72), (3, 4, 0, 73), (12, 0, 0, 74), (2, 0, 1, 75), (10, 0, 0, 76), (43, 0, 0, 77), (10, 0, 0, 78), (29, 0, 0, 79), (43, 0, 0, 80), (5, 0, 0, 81), (37, 26, 9, 82), (3, 3, 0, 83), (2, 0, 9, 84), (10, 0, 0, 85), (3, 4, 0, 86), (10, 0, 0, 87), (43, 0, 0, 88), (2, 0, 1, 89), (11, 0, 0, 90), (11, 0, 0, 91), (48, 0, 0, 92), (5, 0, 0, 93), (37, 26, 9, 94), (3, 3, 0, 95), (2, 0, 9, 96), (10, 0, 0, 97), (3, 4, 0, 98), (10, 0, 0, 99), (2, 0, 0, 100), (48, 0, 0, 101), (0, 0, 0, 102)]
/-- EventLedgerModel.see (II)I -/
def ab_c152 : List ab_O := [(5, 0, 0, 1), (2, 0, 0, 2), (38, 0, 9, 3), (5, 0, 0, 4), (3, 1, 0, 5), (1, 148, 2, 6), (32, 13, 0, 7), (3, 2, 0, 8), (2, 0, 1, 9), (33, 13, 2, 10), (3, 2, 0, 11), (2, 0, 120, 12), (33, 15, 5, 13), (2, 0, -1, 14), (0, 1, 0, 15), (3, 1, 0, 16), (1, 149, 1, 17), (6, 3, 0, 18), (5, 0, 0, 19), (37, 26, 9, 20), (3, 3, 0, 21), (2, 0, 0, 22), (10, 0, 0, 23), (43, 0, 0, 24), (5, 0, 0, 25), (1, 95, 1, 26), (33, 29, 1, 27), (2, 0, -2, 28), (0, 1, 0, 29), (5, 0, 0, 30), (1, 97, 1, 31), (5, 0, 0, 32), (1, 115, 1, 33), (2, 0, 0, 34), (6, 4, 0, 35), (3, 4, 0, 36), (3, 2, 0, 37), (33, 68, 3, 38), (5, 0, 0, 39), (37, 26, 9, 40), (3, 3, 0, 41), (2, 0, 0, 42), (10, 0, 0, 43), (43, 0, 0, 44), (5, 0, 0, 45), (1, 95, 1, 46), (33, 68, 3, 47), (5, 0, 0, 48), (3, 1, 0, 49), (5, 0, 0, 50), (37, 26, 9, 51), (3, 3, 0, 52), (2, 0, 0, 53), (10, 0, 0, 54), (43, 0, 0, 55), (1, 151, 3, 56), (5, 0, 0, 57), (37, 26, 9, 58), (3, 3, 0, 59), (2, 0, 0, 60), (10, 0, 0, 61), (29, 0, 0, 62), (43, 0, 0, 63), (2, 0, 1, 64), (10, 0, 0, 65), (48, 0, 0, 66), (9, 4, 1, 67), (31, 35, 0, 68), (3, 4, 0, 69), (0, 1, 0, 70)]
/-- EventLedgerModel.rewind (I)I -/
def ab_c153 : List ab_O := [(5, 0, 0, 1), (2, 0, 0, 2), (38, 0, 9, 3), (5, 0, 0, 4), (3, 1, 0, 5), (1, 148, 2, 6), (32, 9, 1, 7), (2, 0, -1, 8), (0, 1, 0, 9), (3, 1, 0, 10), (1, 149, 1, 11), (6, 2, 0, 12), (5, 0, 0, 13), (37, 26, 9, 14), (3, 2, 0, 15), (2, 0, 0, 16), (10, 0, 0, 17), (43, 0, 0, 18), (6, 3, 0, 19), (5, 0, 0, 20), (1, 97, 1, 21), (2, 0, 0, 22), (6, 4, 0, 23), (3, 4, 0, 24), (2, 0, 129, 25), (33, 35, 3, 26), (5, 0, 0, 27), (37, 26, 9, 28), (3, 2, 0, 29), (3, 4, 0, 30), (10, 0, 0, 31), (2, 0, 0, 32), (48, 0, 0, 33), (9, 4, 1, 34), (31, 23, 0, 35), (3, 3, 0, 36), (0, 1, 0, 37)]
/-- EventLedgerModel.countedMany (I)I -/
def ab_c154 : List ab_O := [(2, 0, 0, 1), (6, 2, 0, 2), (2, 0, 0, 3), (6, 3, 0, 4), (3, 3, 0, 5), (2, 0, 120, 6), (33, 25, 3, 7), (3, 2, 0, 8), (5, 0, 0, 9), (37, 26, 9, 10), (3, 1, 0, 11), (1, 149, 1, 12), (2, 0, 9, 13), (10, 0, 0, 14), (3, 3, 0, 15), (10, 0, 0, 16), (43, 0, 0, 17), (32, 20, 5, 18), (2, 0, 1, 19), (31, 21, 0, 20), (2, 0, 0, 21), (10, 0, 0, 22), (6, 2, 0, 23), (9, 3, 1, 24), (31, 4, 0, 25), (3, 2, 0, 26), (0, 1, 0, 27)]
/-- EventLedgerModel.sums (I)I -/
def ab_c155 : List ab_O := [(2, 0, 0, 1), (6, 2, 0, 2), (2, 0, 0, 3), (6, 3, 0, 4), (3, 3, 0, 5), (2, 0, 8, 6), (33, 21, 3, 7), (3, 2, 0, 8), (5, 0, 0, 9), (37, 26, 9, 10), (3, 1, 0, 11), (1, 149, 1, 12), (2, 0, 1, 13), (10, 0, 0, 14), (3, 3, 0, 15), (10, 0, 0, 16), (43, 0, 0, 17), (10, 0, 0, 18), (6, 2, 0, 19), (9, 3, 1, 20), (31, 4, 0, 21), (3, 2, 0, 22), (0, 1, 0, 23)]
/-- EventLedgerModel.anew (I)I -/
def ab_c156 : List ab_O := [(5, 0, 0, 1), (1, 115, 1, 2), (2, 0, 0, 3), (6, 2, 0, 4), (2, 0, 0, 5), (6, 3, 0, 6), (3, 3, 0, 7), (5, 0, 0, 8), (1, 95, 1, 9), (33, 27, 3, 10), (5, 0, 0, 11), (3, 1, 0, 12), (3, 3, 0, 13), (1, 150, 3, 14), (6, 4, 0, 15), (3, 2, 0, 16), (3, 4, 0, 17), (32, 22, 5, 18), (3, 4, 0, 19), (2, 0, 1, 20), (11, 0, 0, 21), (31, 23, 0, 22), (2, 0, 0, 23), (10, 0, 0, 24), (6, 2, 0, 25), (9, 3, 1, 26), (31, 6, 0, 27), (3, 2, 0, 28), (0, 1, 0, 29)]
/-- EventLedgerModel.tally (II)I -/
def ab_c157 : List ab_O := [(5, 0, 0, 1), (2, 0, 0, 2), (38, 0, 9, 3), (5, 0, 0, 4), (3, 1, 0, 5), (1, 148, 2, 6), (32, 9, 1, 7), (2, 0, -2147483648, 8), (0, 1, 0, 9), (3, 2, 0, 10), (34, 8, 0, 11), (5, 0, 0, 12), (37, 26, 9, 13), (3, 1, 0, 14), (1, 149, 1, 15), (2, 0, 0, 16), (10, 0, 0, 17), (43, 0, 0, 18), (0, 1, 0, 19), (5, 0, 0, 20), (1, 95, 1, 21), (5, 0, 0, 22), (37, 26, 9, 23), (3, 1, 0, 24), (1, 149, 1, 25), (2, 0, 0, 26), (10, 0, 0, 27), (43, 0, 0, 28), (11, 0, 0, 29), (0, 1, 0, 30), (5, 0, 0, 31), (3, 1, 0, 32), (1, 154, 2, 33), (0, 1, 0, 34), (5, 0, 0, 35), (37, 6, 9, 36), (3, 1, 0, 37), (43, 0, 0, 38), (0, 1, 0, 39), (5, 0, 0, 40), (37, 7, 9, 41), (3, 1, 0, 42), (43, 0, 0, 43), (0, 1, 0, 44), (5, 0, 0, 45), (3, 1, 0, 46), (1, 155, 2, 47), (0, 1, 0, 48), (5, 0, 0, 49), (3, 1, 0, 50), (1, 156, 2, 51), (5, 0, 0, 52), (3, 1, 0, 53), (1, 155, 2, 54), (11, 0, 0, 55), (0, 1, 0, 56), (2, 0, -2147483648, 57), (0, 1, 0, 58)]
/-- EventLedgerModel.sum (II)I -/
def ab_c158 : List ab_O := [(5, 0, 0, 1), (2, 0, 0, 2), (38, 0, 9, 3), (5, 0, 0, 4), (3, 1, 0, 5), (1, 148, 2, 6), (32, 21, 0, 7), (5, 0, 0, 8), (3, 2, 0, 9), (1, 117, 2, 10), (32, 21, 0, 11), (5, 0, 0, 12), (37, 26, 9, 13), (3, 1, 0, 14), (1, 149, 1, 15), (2, 0, 1, 16), (10, 0, 0, 17), (3, 2, 0, 18), (10, 0, 0, 19), (43, 0, 0, 20), (31, 22, 0, 21), (2, 0, -2147483648, 22), (0, 1, 0, 23)]
/-- EventLedgerModel.draw (I)I -/
def ab_c159 : List ab_O := [(5, 0, 0, 1), (5, 0, 0, 2), (35, 45, 9, 3), (2, 0, 1103515245, 4), (12, 0, 0, 5), (2, 0, 12345, 6), (10, 0, 0, 7), (2, 0, 2147483647, 8), (13, 0, 0, 9), (38, 45, 9, 10), (5, 0, 0, 11), (35, 45, 9, 12), (2, 0, 16, 13), (17, 0, 0, 14), (3, 1, 0, 15), (19, 0, 0, 16), (0, 1, 0, 17)]
/-- EventLedgerModel.balances ()I -/
def ab_c160 : List ab_O := [(2, 0, 0, 1), (6, 1, 0, 2), (2, 0, 0, 3), (6, 2, 0, 4), (3, 2, 0, 5), (5, 0, 0, 6), (1, 91, 1, 7), (33, 17, 3, 8), (3, 1, 0, 9), (5, 0, 0, 10), (37, 36, 9, 11), (3, 2, 0, 12), (43, 0, 0, 13), (10, 0, 0, 14), (6, 1, 0, 15), (9, 2, 1, 16), (31, 4, 0, 17), (3, 1, 0, 18), (0, 1, 0, 19)]
/-- EventLedgerModel.chance (III)I -/
def ab_c161 : List ab_O := [(5, 0, 0, 1), (2, 0, 0, 2), (38, 0, 9, 3), (3, 1, 0, 4), (2, 0, -1, 5), (33, 28, 2, 6), (3, 2, 0, 7), (2, 0, 1, 8), (33, 28, 2, 9), (3, 2, 0, 10), (2, 0, 60, 11), (33, 28, 4, 12), (3, 3, 0, 13), (32, 28, 2, 14), (3, 3, 0, 15), (2, 0, 2, 16), (33, 28, 4, 17), (5, 0, 0, 18), (1, 91, 1, 19), (32, 28, 5, 20), (5, 0, 0, 21), (1, 95, 1, 22), (3, 2, 0, 23), (10, 0, 0, 24), (2, 0, 120, 25), (33, 28, 4, 26), (2, 0, 1, 27), (31, 29, 0, 28), (2, 0, 0, 29), (6, 4, 0, 30), (3, 4, 0, 31), (32, 39, 1, 32), (3, 3, 0, 33), (2, 0, 1, 34), (33, 37, 1, 35), (2, 0, -2147483648, 36), (31, 38, 0, 37), (2, 0, -1, 38), (0, 1, 0, 39), (5, 0, 0, 40), (3, 1, 0, 41), (2, 0, -1, 42), (33, 48, 1, 43), (5, 0, 0, 44), (37, 3, 9, 45), (2, 0, 4, 46), (43, 0, 0, 47), (31, 49, 0, 48), (3, 1, 0, 49), (38, 45, 9, 50), (5, 0, 0, 51), (37, 26, 9, 52), (2, 0, 0, 53), (5, 0, 0, 54), (37, 27, 9, 55), (2, 0, 0, 56), (1, 94, 4, 57), (5, 0, 0, 58), (1, 95, 1, 59), (6, 5, 0, 60), (5, 0, 0, 61), (2, 0, 0, 62), (38, 32, 9, 63), (2, 0, 0, 64), (6, 6, 0, 65), (3, 6, 0, 66), (3, 2, 0, 67), (33, 101, 3, 68), (5, 0, 0, 69), (2, 0, 5, 70), (1, 159, 2, 71), (6, 7, 0, 72), (5, 0, 0, 73), (5, 0, 0, 74), (1, 91, 1, 75), (1, 159, 2, 76), (6, 8, 0, 77), (5, 0, 0, 78), (3, 7, 0, 79), (3, 8, 0, 80), (2, 0, -2, 81), (5, 0, 0, 82), (1, 121, 1, 83), (2, 0, 3, 84), (1, 109, 6, 85), (5, 0, 0, 86), (37, 26, 9, 87), (2, 0, 9, 88), (5, 0, 0, 89), (1, 95, 1, 90), (2, 0, 1, 91), (11, 0, 0, 92), (12, 0, 0, 93), (2, 0, 5, 94), (10, 0, 0, 95), (5, 0, 0, 96), (2, 0, 1000, 97), (1, 159, 2, 98), (48, 0, 0, 99), (9, 6, 1, 100), (31, 65, 0, 101), (5, 0, 0, 102), (1, 115, 1, 103), (2, 0, 0, 104), (6, 6, 0, 105), (3, 5, 0, 106), (6, 7, 0, 107), (3, 7, 0, 108), (5, 0, 0, 109), (1, 95, 1, 110), (33, 124, 3, 111), (3, 6, 0, 112), (5, 0, 0, 113), (37, 40, 9, 114), (3, 7, 0, 115), (43, 0, 0, 116), (32, 119, 0, 117), (2, 0, 1, 118), (31, 120, 0, 119), (2, 0, 0, 120), (10, 0, 0, 121), (6, 6, 0, 122), (9, 7, 1, 123), (31, 107, 0, 124), (3, 3, 0, 125), (32, 128, 1, 126), (3, 6, 0, 127), (31, 136, 0, 128), (3, 3, 0, 129), (2, 0, 1, 130), (33, 134, 1, 131), (5, 0, 0, 132), (1, 160, 1, 133), (31, 136, 0, 134), (5, 0, 0, 135), (35, 32, 9, 136), (6, 7, 0, 137), (5, 0, 0, 138), (37, 27, 9, 139), (2, 0, 0, 140), (5, 0, 0, 141), (37, 26, 9, 142), (2, 0, 0, 143), (1, 94, 4, 144), (3, 7, 0, 145), (0, 1, 0, 146)]
/-- EventLedgerModel.voidedMany ()I -/
def ab_c162 : List ab_O := [(2, 0, 0, 1), (6, 1, 0, 2), (2, 0, 0, 3), (6, 2, 0, 4), (3, 2, 0, 5), (5, 0, 0, 6), (1, 95, 1, 7), (33, 20, 3, 8), (3, 1, 0, 9), (5, 0, 0, 10), (3, 2, 0, 11), (1, 102, 2, 12), (32, 15, 0, 13), (2, 0, 1, 14), (31, 16, 0, 15), (2, 0, 0, 16), (10, 0, 0, 17), (6, 1, 0, 18), (9, 2, 1, 19), (31, 4, 0, 20), (3, 1, 0, 21), (0, 1, 0, 22)]
/-- EventLedgerModel.openMany ()I -/
def ab_c163 : List ab_O := [(5, 0, 0, 1), (1, 115, 1, 2), (2, 0, 0, 3), (6, 1, 0, 4), (2, 0, 0, 5), (6, 2, 0, 6), (3, 2, 0, 7), (5, 0, 0, 8), (1, 91, 1, 9), (33, 23, 3, 10), (3, 1, 0, 11), (5, 0, 0, 12), (37, 39, 9, 13), (3, 2, 0, 14), (45, 0, 0, 15), (32, 18, 0, 16), (2, 0, 1, 17), (31, 19, 0, 18), (2, 0, 0, 19), (10, 0, 0, 20), (6, 1, 0, 21), (9, 2, 1, 22), (31, 6, 0, 23), (3, 1, 0, 24), (0, 1, 0, 25)]
/-- EventLedgerModel.asideMany ()I -/
def ab_c164 : List ab_O := [(5, 0, 0, 1), (1, 115, 1, 2), (5, 0, 0, 3), (1, 116, 1, 4), (0, 1, 0, 5)]
/-- EventLedgerModel.count (I)I -/
def ab_c165 : List ab_O := [(5, 0, 0, 1), (2, 0, 0, 2), (38, 0, 9, 3), (3, 1, 0, 4), (34, 9, 0, 5), (5, 0, 0, 6), (1, 91, 1, 7), (0, 1, 0, 8), (5, 0, 0, 9), (1, 95, 1, 10), (0, 1, 0, 11), (5, 0, 0, 12), (1, 92, 1, 13), (0, 1, 0, 14), (5, 0, 0, 15), (37, 26, 9, 16), (2, 0, 1081, 17), (43, 0, 0, 18), (0, 1, 0, 19), (5, 0, 0, 20), (1, 164, 1, 21), (0, 1, 0, 22), (5, 0, 0, 23), (1, 162, 1, 24), (0, 1, 0, 25), (5, 0, 0, 26), (1, 95, 1, 27), (32, 30, 1, 28), (2, 0, -2, 29), (31, 32, 0, 30), (5, 0, 0, 31), (1, 121, 1, 32), (0, 1, 0, 33), (5, 0, 0, 34), (1, 163, 1, 35), (0, 1, 0, 36), (5, 0, 0, 37), (2, 0, 0, 38), (5, 0, 0, 39), (1, 95, 1, 40), (1, 104, 3, 41), (0, 1, 0, 42), (5, 0, 0, 43), (35, 30, 9, 44), (0, 1, 0, 45), (5, 0, 0, 46), (35, 2, 9, 47), (0, 1, 0, 48), (5, 0, 0, 49), (37, 26, 9, 50), (2, 0, 1089, 51), (43, 0, 0, 52), (0, 1, 0, 53), (5, 0, 0, 54), (37, 26, 9, 55), (2, 0, 1090, 56), (43, 0, 0, 57), (0, 1, 0, 58), (2, 0, -1, 59), (0, 1, 0, 60)]
/-- EventLedger$Log.<init> ()V -/
def ab_c166 : List ab_O := [(5, 0, 0, 1), (58, 0, 0, 2), (5, 0, 0, 3), (2, 0, 120, 4), (53, 0, 0, 5), (41, 0, 1, 6), (5, 0, 0, 7), (2, 0, 120, 8), (53, 0, 0, 9), (41, 1, 1, 10), (5, 0, 0, 11), (2, 0, 120, 12), (53, 0, 0, 13), (41, 2, 1, 14), (5, 0, 0, 15), (2, 0, 120, 16), (53, 0, 0, 17), (41, 3, 1, 18), (5, 0, 0, 19), (2, 0, 120, 20), (53, 0, 0, 21), (41, 4, 1, 22), (5, 0, 0, 23), (2, 0, 360, 24), (53, 0, 0, 25), (41, 5, 1, 26), (5, 0, 0, 27), (2, 0, 360, 28), (53, 0, 0, 29), (41, 6, 1, 30), (5, 0, 0, 31), (2, 0, 120, 32), (53, 0, 0, 33), (41, 7, 1, 34), (5, 0, 0, 35), (2, 0, 120, 36), (53, 0, 0, 37), (41, 8, 1, 38), (5, 0, 0, 39), (2, 0, 121, 40), (53, 0, 0, 41), (41, 9, 1, 42), (0, 0, 0, 43)]
/-- EventLedger$Log.clear ()V -/
def ab_c167 : List ab_O := [(5, 0, 0, 1), (2, 0, 0, 2), (38, 10, 1, 3), (0, 0, 0, 4)]
/-- EventLedger$Log.holds (I)Z -/
def ab_c168 : List ab_O := [(3, 1, 0, 1), (32, 8, 2, 2), (3, 1, 0, 3), (5, 0, 0, 4), (35, 10, 1, 5), (33, 8, 3, 6), (2, 0, 1, 7), (31, 9, 0, 8), (2, 0, 0, 9), (0, 2, 0, 10)]
/-- EventLedger$Log.holdsPlain (I)Z -/
def ab_c169 : List ab_O := [(5, 0, 0, 1), (3, 1, 0, 2), (1, 168, 2, 3), (32, 12, 0, 4), (5, 0, 0, 5), (37, 0, 1, 6), (3, 1, 0, 7), (43, 0, 0, 8), (2, 0, 7, 9), (33, 12, 0, 10), (2, 0, 1, 11), (31, 13, 0, 12), (2, 0, 0, 13), (0, 2, 0, 14)]
/-- EventLedger$Log.latestTime ()I -/
def ab_c170 : List ab_O := [(5, 0, 0, 1), (35, 10, 1, 2), (32, 11, 5, 3), (5, 0, 0, 4), (37, 3, 1, 5), (5, 0, 0, 6), (35, 10, 1, 7), (2, 0, 1, 8), (11, 0, 0, 9), (43, 0, 0, 10), (31, 12, 0, 11), (2, 0, -2, 12), (0, 1, 0, 13)]
/-- EventLedger$Log.add (IIIII[I)V -/
def ab_c171 : List ab_O := [(5, 0, 0, 1), (35, 10, 1, 2), (2, 0, 120, 3), (33, 8, 3, 4), (5, 6, 0, 5), (61, 0, 0, 6), (2, 0, 3, 7), (33, 9, 0, 8), (0, 0, 0, 9), (5, 0, 0, 10), (37, 0, 1, 11), (5, 0, 0, 12), (35, 10, 1, 13), (3, 1, 0, 14), (48, 0, 0, 15), (5, 0, 0, 16), (37, 1, 1, 17), (5, 0, 0, 18), (35, 10, 1, 19), (3, 2, 0, 20), (48, 0, 0, 21), (5, 0, 0, 22), (37, 2, 1, 23), (5, 0, 0, 24), (35, 10, 1, 25), (3, 3, 0, 26), (48, 0, 0, 27), (5, 0, 0, 28), (37, 3, 1, 29), (5, 0, 0, 30), (35, 10, 1, 31), (3, 4, 0, 32), (48, 0, 0, 33), (5, 0, 0, 34), (37, 4, 1, 35), (5, 0, 0, 36), (35, 10, 1, 37), (3, 5, 0, 38), (48, 0, 0, 39), (5, 6, 0, 40), (2, 0, 0, 41), (5, 0, 0, 42), (37, 5, 1, 43), (2, 0, 3, 44), (5, 0, 0, 45), (35, 10, 1, 46), (12, 0, 0, 47), (2, 0, 3, 48), (57, 0, 0, 49), (5, 0, 0, 50), (37, 7, 1, 51), (5, 0, 0, 52), (35, 10, 1, 53), (2, 0, 0, 54), (48, 0, 0, 55), (5, 0, 0, 56), (37, 8, 1, 57), (5, 0, 0, 58), (35, 10, 1, 59), (2, 0, -1, 60), (48, 0, 0, 61), (5, 0, 0, 62), (37, 9, 1, 63), (5, 0, 0, 64), (35, 10, 1, 65), (2, 0, 1, 66), (10, 0, 0, 67), (5, 0, 0, 68), (37, 9, 1, 69), (5, 0, 0, 70), (35, 10, 1, 71), (43, 0, 0, 72), (2, 0, 1, 73), (10, 0, 0, 74), (2, 0, 3, 75), (10, 0, 0, 76), (3, 5, 0, 77), (11, 0, 0, 78), (48, 0, 0, 79), (5, 0, 0, 80), (28, 0, 0, 81), (35, 10, 1, 82), (2, 0, 1, 83), (10, 0, 0, 84), (38, 10, 1, 85), (0, 0, 0, 86)]
/-- EventLedger$Log.addVoid (II)V -/
def ab_c172 : List ab_O := [(5, 0, 0, 1), (35, 10, 1, 2), (2, 0, 120, 3), (33, 8, 3, 4), (5, 0, 0, 5), (3, 1, 0, 6), (1, 168, 2, 7), (32, 9, 1, 8), (0, 0, 0, 9), (5, 0, 0, 10), (37, 0, 1, 11), (5, 0, 0, 12), (35, 10, 1, 13), (2, 0, 7, 14), (48, 0, 0, 15), (5, 0, 0, 16), (37, 1, 1, 17), (5, 0, 0, 18), (35, 10, 1, 19), (2, 0, -1, 20), (48, 0, 0, 21), (5, 0, 0, 22), (37, 2, 1, 23), (5, 0, 0, 24), (35, 10, 1, 25), (3, 1, 0, 26), (48, 0, 0, 27), (5, 0, 0, 28), (37, 3, 1, 29), (5, 0, 0, 30), (35, 10, 1, 31), (3, 2, 0, 32), (48, 0, 0, 33), (5, 0, 0, 34), (37, 4, 1, 35), (5, 0, 0, 36), (35, 10, 1, 37), (2, 0, 0, 38), (48, 0, 0, 39), (5, 0, 0, 40), (37, 7, 1, 41), (5, 0, 0, 42), (35, 10, 1, 43), (2, 0, 0, 44), (48, 0, 0, 45), (5, 0, 0, 46), (37, 8, 1, 47), (5, 0, 0, 48), (35, 10, 1, 49), (2, 0, -1, 50), (48, 0, 0, 51), (5, 0, 0, 52), (37, 9, 1, 53), (5, 0, 0, 54), (35, 10, 1, 55), (2, 0, 1, 56), (10, 0, 0, 57), (5, 0, 0, 58), (37, 9, 1, 59), (5, 0, 0, 60), (35, 10, 1, 61), (43, 0, 0, 62), (2, 0, 1, 63), (10, 0, 0, 64), (48, 0, 0, 65), (5, 0, 0, 66), (37, 8, 1, 67), (3, 1, 0, 68), (5, 0, 0, 69), (35, 10, 1, 70), (48, 0, 0, 71), (5, 0, 0, 72), (28, 0, 0, 73), (35, 10, 1, 74), (2, 0, 1, 75), (10, 0, 0, 76), (38, 10, 1, 77), (0, 0, 0, 78)]
/-- EventLedger$Log.cutTo (I)V -/
def ab_c173 : List ab_O := [(5, 0, 0, 1), (35, 10, 1, 2), (2, 0, 1, 3), (11, 0, 0, 4), (6, 2, 0, 5), (3, 2, 0, 6), (3, 1, 0, 7), (33, 29, 2, 8), (3, 2, 0, 9), (32, 29, 2, 10), (5, 0, 0, 11), (37, 0, 1, 12), (3, 2, 0, 13), (43, 0, 0, 14), (2, 0, 7, 15), (33, 24, 1, 16), (5, 0, 0, 17), (37, 8, 1, 18), (5, 0, 0, 19), (37, 2, 1, 20), (3, 2, 0, 21), (43, 0, 0, 22), (2, 0, -1, 23), (48, 0, 0, 24), (5, 0, 0, 25), (3, 2, 0, 26), (38, 10, 1, 27), (9, 2, -1, 28), (31, 5, 0, 29), (0, 0, 0, 30)]
/-- EventLedger$Log.unlift (I)V -/
def ab_c174 : List ab_O := [(5, 0, 0, 1), (37, 5, 1, 2), (2, 0, 3, 3), (3, 1, 0, 4), (12, 0, 0, 5), (5, 0, 0, 6), (37, 6, 1, 7), (2, 0, 3, 8), (3, 1, 0, 9), (12, 0, 0, 10), (2, 0, 3, 11), (57, 0, 0, 12), (5, 0, 0, 13), (37, 7, 1, 14), (3, 1, 0, 15), (2, 0, 0, 16), (48, 0, 0, 17), (0, 0, 0, 18)]
/-- EventLedger$Log.weights (II)I -/
def ab_c175 : List ab_O := [(5, 0, 0, 1), (37, 9, 1, 2), (3, 2, 0, 3), (43, 0, 0, 4), (5, 0, 0, 5), (37, 9, 1, 6), (3, 1, 0, 7), (43, 0, 0, 8), (11, 0, 0, 9), (0, 1, 0, 10)]
/-- EventLedger$Log.placeAt (I)I -/
def ab_c176 : List ab_O := [(2, 0, 0, 1), (6, 2, 0, 2), (3, 2, 0, 3), (5, 0, 0, 4), (35, 10, 1, 5), (33, 14, 3, 6), (5, 0, 0, 7), (37, 3, 1, 8), (3, 2, 0, 9), (43, 0, 0, 10), (3, 1, 0, 11), (33, 14, 4, 12), (9, 2, 1, 13), (31, 2, 0, 14), (3, 2, 0, 15), (0, 1, 0, 16)]
/-- EventLedger$Log.countVoided ()I -/
def ab_c177 : List ab_O := [(2, 0, 0, 1), (6, 1, 0, 2), (2, 0, 0, 3), (6, 2, 0, 4), (3, 2, 0, 5), (5, 0, 0, 6), (35, 10, 1, 7), (33, 17, 3, 8), (5, 0, 0, 9), (37, 8, 1, 10), (3, 2, 0, 11), (43, 0, 0, 12), (2, 0, -1, 13), (33, 15, 0, 14), (9, 1, 1, 15), (9, 2, 1, 16), (31, 4, 0, 17), (3, 1, 0, 18), (0, 1, 0, 19)]
/-- EventLedger$Log.copyFrom (LEventLedger$Log;)V -/
def ab_c178 : List ab_O := [(5, 0, 0, 1), (5, 1, 0, 2), (35, 10, 1, 3), (38, 10, 1, 4), (5, 1, 0, 5), (37, 0, 1, 6), (2, 0, 0, 7), (5, 0, 0, 8), (37, 0, 1, 9), (2, 0, 0, 10), (5, 0, 0, 11), (35, 10, 1, 12), (57, 0, 0, 13), (5, 1, 0, 14), (37, 1, 1, 15), (2, 0, 0, 16), (5, 0, 0, 17), (37, 1, 1, 18), (2, 0, 0, 19), (5, 0, 0, 20), (35, 10, 1, 21), (57, 0, 0, 22), (5, 1, 0, 23), (37, 2, 1, 24), (2, 0, 0, 25), (5, 0, 0, 26), (37, 2, 1, 27), (2, 0, 0, 28), (5, 0, 0, 29), (35, 10, 1, 30), (57, 0, 0, 31), (5, 1, 0, 32), (37, 3, 1, 33), (2, 0, 0, 34), (5, 0, 0, 35), (37, 3, 1, 36), (2, 0, 0, 37), (5, 0, 0, 38), (35, 10, 1, 39), (57, 0, 0, 40), (5, 1, 0, 41), (37, 4, 1, 42), (2, 0, 0, 43), (5, 0, 0, 44), (37, 4, 1, 45), (2, 0, 0, 46), (5, 0, 0, 47), (35, 10, 1, 48), (57, 0, 0, 49), (5, 1, 0, 50), (37, 5, 1, 51), (2, 0, 0, 52), (5, 0, 0, 53), (37, 5, 1, 54), (2, 0, 0, 55), (2, 0, 3, 56), (5, 0, 0, 57), (35, 10, 1, 58), (12, 0, 0, 59), (57, 0, 0, 60), (5, 1, 0, 61), (37, 6, 1, 62), (2, 0, 0, 63), (5, 0, 0, 64), (37, 6, 1, 65), (2, 0, 0, 66), (2, 0, 3, 67), (5, 0, 0, 68), (35, 10, 1, 69), (12, 0, 0, 70), (57, 0, 0, 71), (5, 1, 0, 72), (37, 7, 1, 73), (2, 0, 0, 74), (5, 0, 0, 75), (37, 7, 1, 76), (2, 0, 0, 77), (5, 0, 0, 78), (35, 10, 1, 79), (57, 0, 0, 80), (5, 1, 0, 81), (37, 8, 1, 82), (2, 0, 0, 83), (5, 0, 0, 84), (37, 8, 1, 85), (2, 0, 0, 86), (5, 0, 0, 87), (35, 10, 1, 88), (57, 0, 0, 89), (5, 1, 0, 90), (37, 9, 1, 91), (2, 0, 0, 92), (5, 0, 0, 93), (37, 9, 1, 94), (2, 0, 0, 95), (5, 0, 0, 96), (35, 10, 1, 97), (2, 0, 1, 98), (10, 0, 0, 99), (57, 0, 0, 100), (0, 0, 0, 101)]
/-- EventLedger$Mark.<init> ()V -/
def ab_c179 : List ab_O := [(5, 0, 0, 1), (58, 0, 0, 2), (5, 0, 0, 3), (52, 4, 0, 4), (28, 0, 0, 5), (1, 218, 1, 6), (41, 3, 5, 7), (0, 0, 0, 8)]
/-- EventLedger$Parser.<init> ([B)V -/
def ab_c180 : List ab_O := [(5, 0, 0, 1), (58, 0, 0, 2), (5, 0, 0, 3), (2, 0, 3, 4), (53, 0, 0, 5), (41, 1, 7, 6), (5, 0, 0, 7), (2, 0, -1, 8), (38, 7, 7, 9), (5, 0, 0, 10), (52, 8, 0, 11), (28, 0, 0, 12), (5, 1, 0, 13), (1, 238, 2, 14), (41, 0, 7, 15), (0, 0, 0, 16)]
/-- EventLedger$Parser.parse (ILEventLedger$Terms;LEventLedger$Log;)I -/
def ab_c181 : List ab_O := [(5, 0, 0, 1), (5, 2, 0, 2), (40, 2, 7, 3), (5, 0, 0, 4), (37, 2, 7, 5), (1, 227, 1, 6), (5, 0, 0, 7), (5, 3, 0, 8), (40, 3, 7, 9), (5, 0, 0, 10), (37, 3, 7, 11), (1, 167, 1, 12), (5, 0, 0, 13), (2, 0, 0, 14), (39, 4, 7, 15), (5, 0, 0, 16), (2, 0, 0, 17), (39, 5, 7, 18), (5, 0, 0, 19), (2, 0, 0, 20), (38, 6, 7, 21), (5, 0, 0, 22), (2, 0, -1, 23), (38, 7, 7, 24), (5, 0, 0, 25), (37, 0, 7, 26), (3, 1, 0, 27), (1, 239, 2, 28), (2, 0, 0, 29), (6, 4, 0, 30), (3, 4, 0, 31), (3, 1, 0, 32), (33, 51, 3, 33), (5, 0, 0, 34), (35, 6, 7, 35), (32, 51, 1, 36), (5, 0, 0, 37), (37, 0, 7, 38), (35, 3, 8, 39), (32, 51, 0, 40), (5, 0, 0, 41), (2, 0, 1, 42), (1, 192, 2, 43), (32, 49, 0, 44), (5, 0, 0, 45), (5, 0, 0, 46), (37, 0, 7, 47), (37, 5, 8, 48), (1, 182, 2, 49), (9, 4, 1, 50), (31, 30, 0, 51), (5, 0, 0, 52), (35, 6, 7, 53), (32, 56, 1, 54), (3, 4, 0, 55), (31, 57, 0, 56), (2, 0, -1, 57), (0, 1, 0, 58)]
/-- EventLedger$Parser.readLine (LEventLedger$Word;)V -/
def ab_c182 : List ab_O := [(42, 0, -4, 1), (5, 1, 0, 2), (66, 0, 0, 3), (64, 0, 0, 4), (34, 10, 0, 5), (5, 0, 0, 6), (1, 183, 1, 7), (31, 27, 0, 8), (5, 0, 0, 9), (1, 184, 1, 10), (31, 27, 0, 11), (5, 0, 0, 12), (1, 185, 1, 13), (31, 27, 0, 14), (5, 0, 0, 15), (1, 186, 1, 16), (31, 27, 0, 17), (5, 0, 0, 18), (1, 187, 1, 19), (31, 27, 0, 20), (5, 0, 0, 21), (1, 188, 1, 22), (31, 27, 0, 23), (5, 0, 0, 24), (5, 1, 0, 25), (65, 2, 0, 26), (1, 189, 2, 27), (0, 0, 0, 28)]
/-- EventLedger$Parser.readAccount ()V -/
def ab_c183 : List ab_O := [(5, 0, 0, 1), (5, 0, 0, 2), (37, 2, 7, 3), (35, 1, 6, 4), (2, 0, 8, 5), (1, 190, 3, 6), (5, 0, 0, 7), (37, 0, 7, 8), (1, 240, 1, 9), (5, 0, 0, 10), (37, 0, 7, 11), (35, 4, 8, 12), (6, 1, 0, 13), (5, 0, 0, 14), (1, 194, 1, 15), (6, 2, 0, 16), (5, 0, 0, 17), (37, 2, 7, 18), (3, 2, 0, 19), (1, 228, 2, 20), (2, 0, -1, 21), (33, 26, 0, 22), (5, 0, 0, 23), (2, 0, 3, 24), (3, 1, 0, 25), (1, 191, 3, 26), (5, 0, 0, 27), (1, 193, 1, 28), (5, 0, 0, 29), (35, 6, 7, 30), (32, 35, 1, 31), (5, 0, 0, 32), (37, 2, 7, 33), (3, 2, 0, 34), (1, 231, 2, 35), (0, 0, 0, 36)]
/-- EventLedger$Parser.readLift ()V -/
def ab_c184 : List ab_O := [(5, 0, 0, 1), (37, 0, 7, 2), (1, 240, 1, 3), (5, 0, 0, 4), (5, 0, 0, 5), (37, 0, 7, 6), (37, 5, 8, 7), (65, 2, 0, 8), (1, 198, 2, 9), (6, 1, 0, 10), (5, 0, 0, 11), (37, 0, 7, 12), (35, 4, 8, 13), (6, 2, 0, 14), (5, 0, 0, 15), (2, 0, 1, 16), (2, 0, 2, 17), (1, 195, 3, 18), (6, 3, 0, 19), (5, 0, 0, 20), (37, 2, 7, 21), (3, 1, 0, 22), (3, 3, 0, 23), (1, 234, 3, 24), (2, 0, 4, 25), (33, 30, 2, 26), (5, 0, 0, 27), (2, 0, 2, 28), (3, 2, 0, 29), (1, 191, 3, 30), (5, 0, 0, 31), (5, 0, 0, 32), (37, 0, 7, 33), (37, 5, 8, 34), (65, 3, 0, 35), (1, 198, 2, 36), (6, 4, 0, 37), (5, 0, 0, 38), (2, 0, 1, 39), (2, 0, 3, 40), (1, 195, 3, 41), (6, 5, 0, 42), (3, 4, 0, 43), (2, 0, 3, 44), (33, 50, 1, 45), (5, 0, 0, 46), (2, 0, 1, 47), (2, 0, 3, 48), (1, 195, 3, 49), (31, 54, 0, 50), (5, 0, 0, 51), (2, 0, 0, 52), (2, 0, 999, 53), (1, 195, 3, 54), (6, 6, 0, 55), (5, 0, 0, 56), (1, 193, 1, 57), (5, 0, 0, 58), (35, 6, 7, 59), (32, 68, 1, 60), (5, 0, 0, 61), (37, 2, 7, 62), (3, 1, 0, 63), (3, 3, 0, 64), (3, 4, 0, 65), (3, 5, 0, 66), (3, 6, 0, 67), (1, 235, 6, 68), (0, 0, 0, 69)]
/-- EventLedger$Parser.readTally ()V -/
def ab_c185 : List ab_O := [(5, 0, 0, 1), (5, 0, 0, 2), (37, 2, 7, 3), (35, 5, 6, 4), (2, 0, 4, 5), (1, 190, 3, 6), (5, 0, 0, 7), (37, 0, 7, 8), (1, 240, 1, 9), (5, 0, 0, 10), (37, 0, 7, 11), (35, 4, 8, 12), (6, 1, 0, 13), (5, 0, 0, 14), (1, 194, 1, 15), (6, 2, 0, 16), (5, 0, 0, 17), (37, 2, 7, 18), (3, 2, 0, 19), (1, 229, 2, 20), (2, 0, -1, 21), (33, 26, 0, 22), (5, 0, 0, 23), (2, 0, 3, 24), (3, 1, 0, 25), (1, 191, 3, 26), (5, 0, 0, 27), (5, 0, 0, 28), (37, 0, 7, 29), (37, 5, 8, 30), (65, 2, 0, 31), (1, 198, 2, 32), (6, 3, 0, 33), (5, 0, 0, 34), (2, 0, 1, 35), (2, 0, 3, 36), (1, 195, 3, 37), (6, 4, 0, 38), (5, 0, 0, 39), (1, 193, 1, 40), (5, 0, 0, 41), (35, 6, 7, 42), (32, 49, 1, 43), (5, 0, 0, 44), (37, 2, 7, 45), (3, 2, 0, 46), (3, 3, 0, 47), (3, 4, 0, 48), (1, 232, 4, 49), (0, 0, 0, 50)]
/-- EventLedger$Parser.readSnap ()V -/
def ab_c186 : List ab_O := [(5, 0, 0, 1), (35, 4, 7, 2), (32, 9, 0, 3), (5, 0, 0, 4), (2, 0, 3, 5), (5, 0, 0, 6), (37, 0, 7, 7), (35, 4, 8, 8), (1, 191, 3, 9), (5, 0, 0, 10), (2, 0, 1, 11), (39, 4, 7, 12), (5, 0, 0, 13), (37, 0, 7, 14), (1, 240, 1, 15), (5, 0, 0, 16), (37, 2, 7, 17), (5, 0, 0, 18), (2, 0, 1, 19), (2, 0, 999, 20), (1, 195, 3, 21), (38, 10, 6, 22), (5, 0, 0, 23), (37, 2, 7, 24), (5, 0, 0, 25), (2, 0, 0, 26), (2, 0, 6, 27), (1, 195, 3, 28), (38, 11, 6, 29), (5, 0, 0, 30), (1, 193, 1, 31), (0, 0, 0, 32)]
/-- EventLedger$Parser.readSeed ()V -/
def ab_c187 : List ab_O := [(5, 0, 0, 1), (35, 5, 7, 2), (32, 9, 0, 3), (5, 0, 0, 4), (2, 0, 3, 5), (5, 0, 0, 6), (37, 0, 7, 7), (35, 4, 8, 8), (1, 191, 3, 9), (5, 0, 0, 10), (2, 0, 1, 11), (39, 5, 7, 12), (5, 0, 0, 13), (37, 0, 7, 14), (1, 240, 1, 15), (5, 0, 0, 16), (37, 2, 7, 17), (5, 0, 0, 18), (2, 0, 0, 19), (2, 0, 99999, 20), (1, 195, 3, 21), (38, 12, 6, 22), (5, 0, 0, 23), (1, 193, 1, 24), (0, 0, 0, 25)]
/-- EventLedger$Parser.readVoid ()V -/
def ab_c188 : List ab_O := [(5, 0, 0, 1), (5, 0, 0, 2), (37, 3, 7, 3), (35, 10, 1, 4), (2, 0, 50, 5), (1, 190, 3, 6), (5, 0, 0, 7), (37, 0, 7, 8), (1, 240, 1, 9), (5, 0, 0, 10), (37, 0, 7, 11), (35, 4, 8, 12), (6, 1, 0, 13), (5, 0, 0, 14), (2, 0, 0, 15), (2, 0, 2147483647, 16), (1, 195, 3, 17), (6, 2, 0, 18), (5, 0, 0, 19), (37, 3, 7, 20), (3, 2, 0, 21), (1, 169, 2, 22), (32, 28, 1, 23), (5, 0, 0, 24), (2, 0, 4, 25), (3, 1, 0, 26), (1, 191, 3, 27), (31, 39, 0, 28), (5, 0, 0, 29), (37, 3, 7, 30), (37, 8, 1, 31), (3, 2, 0, 32), (43, 0, 0, 33), (2, 0, -1, 34), (33, 39, 0, 35), (5, 0, 0, 36), (2, 0, 3, 37), (3, 1, 0, 38), (1, 191, 3, 39), (5, 0, 0, 40), (1, 196, 1, 41), (6, 3, 0, 42), (5, 0, 0, 43), (1, 193, 1, 44), (5, 0, 0, 45), (35, 6, 7, 46), (32, 52, 1, 47), (5, 0, 0, 48), (37, 3, 7, 49), (3, 2, 0, 50), (3, 3, 0, 51), (1, 172, 3, 52), (0, 0, 0, 53)]
/-- EventLedger$Parser.readEvent (I)V -/
def ab_c189 : List ab_O := [(3, 1, 0, 1), (2, 0, -1, 2), (33, 10, 1, 3), (5, 0, 0, 4), (2, 0, 1, 5), (5, 0, 0, 6), (37, 0, 7, 7), (35, 4, 8, 8), (1, 191, 3, 9), (0, 0, 0, 10), (5, 0, 0, 11), (5, 0, 0, 12), (37, 3, 7, 13), (35, 10, 1, 14), (2, 0, 50, 15), (1, 190, 3, 16), (5, 0, 0, 17), (37, 0, 7, 18), (1, 240, 1, 19), (5, 0, 0, 20), (1, 197, 1, 21), (6, 2, 0, 22), (5, 0, 0, 23), (37, 0, 7, 24), (35, 4, 8, 25), (6, 3, 0, 26), (3, 1, 0, 27), (2, 0, 6, 28), (33, 32, 1, 29), (5, 0, 0, 30), (1, 197, 1, 31), (31, 33, 0, 32), (2, 0, -1, 33), (6, 4, 0, 34), (3, 4, 0, 35), (3, 2, 0, 36), (33, 41, 1, 37), (5, 0, 0, 38), (2, 0, 3, 39), (3, 3, 0, 40), (1, 191, 3, 41), (5, 0, 0, 42), (1, 196, 1, 43), (6, 5, 0, 44), (5, 0, 0, 45), (2, 0, 1, 46), (2, 0, 3, 47), (1, 195, 3, 48), (6, 6, 0, 49), (2, 0, 0, 50), (6, 7, 0, 51), (3, 7, 0, 52), (2, 0, 3, 53), (33, 69, 3, 54), (5, 0, 0, 55), (37, 1, 7, 56), (3, 7, 0, 57), (3, 7, 0, 58), (3, 6, 0, 59), (33, 65, 3, 60), (5, 0, 0, 61), (2, 0, 0, 62), (2, 0, 99999, 63), (1, 195, 3, 64), (31, 66, 0, 65), (2, 0, 0, 66), (48, 0, 0, 67), (9, 7, 1, 68), (31, 51, 0, 69), (5, 0, 0, 70), (1, 193, 1, 71), (5, 0, 0, 72), (35, 6, 7, 73), (32, 84, 1, 74), (5, 0, 0, 75), (37, 3, 7, 76), (3, 1, 0, 77), (3, 2, 0, 78), (3, 4, 0, 79), (3, 5, 0, 80), (3, 6, 0, 81), (5, 0, 0, 82), (37, 1, 7, 83), (1, 171, 7, 84), (0, 0, 0, 85)]
/-- EventLedger$Parser.needRoom (II)V -/
def ab_c190 : List ab_O := [(3, 1, 0, 1), (3, 2, 0, 2), (33, 9, 2, 3), (5, 0, 0, 4), (2, 0, 2, 5), (5, 0, 0, 6), (37, 0, 7, 7), (35, 4, 8, 8), (1, 191, 3, 9), (0, 0, 0, 10)]
/-- EventLedger$Parser.fail (II)V -/
def ab_c191 : List ab_O := [(5, 0, 0, 1), (35, 6, 7, 2), (32, 9, 1, 3), (5, 0, 0, 4), (3, 1, 0, 5), (38, 6, 7, 6), (5, 0, 0, 7), (3, 2, 0, 8), (38, 7, 7, 9), (0, 0, 0, 10)]
/-- EventLedger$Parser.stands (I)Z -/
def ab_c192 : List ab_O := [(5, 0, 0, 1), (37, 0, 7, 2), (35, 3, 8, 3), (3, 1, 0, 4), (33, 11, 0, 5), (5, 0, 0, 6), (2, 0, 1, 7), (5, 0, 0, 8), (37, 0, 7, 9), (35, 4, 8, 10), (1, 191, 3, 11), (5, 0, 0, 12), (35, 6, 7, 13), (32, 16, 1, 14), (2, 0, 1, 15), (31, 17, 0, 16), (2, 0, 0, 17), (0, 2, 0, 18)]
/-- EventLedger$Parser.takeStop ()V -/
def ab_c193 : List ab_O := [(5, 0, 0, 1), (2, 0, 4, 2), (1, 192, 2, 3), (32, 7, 0, 4), (5, 0, 0, 5), (37, 0, 7, 6), (1, 240, 1, 7), (0, 0, 0, 8)]
/-- EventLedger$Parser.takeName ()I -/
def ab_c194 : List ab_O := [(5, 0, 0, 1), (2, 0, 2, 2), (1, 192, 2, 3), (32, 6, 1, 4), (2, 0, 0, 5), (0, 1, 0, 6), (5, 0, 0, 7), (37, 0, 7, 8), (35, 6, 8, 9), (6, 1, 0, 10), (5, 0, 0, 11), (37, 0, 7, 12), (1, 240, 1, 13), (3, 1, 0, 14), (0, 1, 0, 15)]
/-- EventLedger$Parser.takeNumber (II)I -/
def ab_c195 : List ab_O := [(5, 0, 0, 1), (2, 0, 3, 2), (1, 192, 2, 3), (32, 6, 1, 4), (3, 1, 0, 5), (0, 1, 0, 6), (5, 0, 0, 7), (37, 0, 7, 8), (35, 7, 8, 9), (6, 3, 0, 10), (3, 3, 0, 11), (3, 1, 0, 12), (33, 16, 2, 13), (3, 3, 0, 14), (3, 2, 0, 15), (33, 24, 5, 16), (5, 0, 0, 17), (2, 0, 2, 18), (5, 0, 0, 19), (37, 0, 7, 20), (35, 4, 8, 21), (1, 191, 3, 22), (3, 1, 0, 23), (0, 1, 0, 24), (5, 0, 0, 25), (37, 0, 7, 26), (1, 240, 1, 27), (3, 3, 0, 28), (0, 1, 0, 29)]
/-- EventLedger$Parser.takeTime ()I -/
def ab_c196 : List ab_O := [(5, 0, 0, 1), (2, 0, 0, 2), (5, 0, 0, 3), (37, 3, 7, 4), (1, 170, 1, 5), (55, 0, 0, 6), (2, 0, 9999, 7), (1, 195, 3, 8), (0, 1, 0, 9)]
/-- EventLedger$Parser.takeAccount ()I -/
def ab_c197 : List ab_O := [(5, 0, 0, 1), (2, 0, 2, 2), (1, 192, 2, 3), (32, 6, 1, 4), (2, 0, 0, 5), (0, 1, 0, 6), (5, 0, 0, 7), (37, 2, 7, 8), (5, 0, 0, 9), (37, 0, 7, 10), (35, 6, 8, 11), (1, 228, 2, 12), (6, 1, 0, 13), (3, 1, 0, 14), (2, 0, -1, 15), (33, 24, 1, 16), (5, 0, 0, 17), (2, 0, 4, 18), (5, 0, 0, 19), (37, 0, 7, 20), (35, 4, 8, 21), (1, 191, 3, 22), (2, 0, 0, 23), (0, 1, 0, 24), (5, 0, 0, 25), (37, 0, 7, 26), (1, 240, 1, 27), (3, 1, 0, 28), (0, 1, 0, 29)]
/-- EventLedger$Parser.takeNamed (I)I -/
def ab_c198 : List ab_O := [(5, 0, 0, 1), (2, 0, 1, 2), (1, 192, 2, 3), (32, 6, 1, 4), (2, 0, 0, 5), (0, 1, 0, 6), (3, 1, 0, 7), (2, 0, -1, 8), (33, 17, 1, 9), (5, 0, 0, 10), (2, 0, 1, 11), (5, 0, 0, 12), (37, 0, 7, 13), (35, 4, 8, 14), (1, 191, 3, 15), (2, 0, 0, 16), (0, 1, 0, 17), (5, 0, 0, 18), (37, 0, 7, 19), (1, 240, 1, 20), (3, 1, 0, 21), (0, 1, 0, 22)]
/-- EventLedger$Shots.<init> ()V -/
def ab_c199 : List ab_O := [(5, 0, 0, 1), (58, 0, 0, 2), (5, 0, 0, 3), (2, 0, 7, 4), (53, 0, 0, 5), (41, 0, 3, 6), (0, 0, 0, 7)]
/-- EventLedger$Shots.retake (LEventLedger$Log;I)I -/
def ab_c200 : List ab_O := [(5, 0, 0, 1), (2, 0, 0, 2), (38, 1, 3, 3), (2, 0, 0, 4), (6, 3, 0, 5), (2, 0, 0, 6), (6, 4, 0, 7), (3, 4, 0, 8), (5, 1, 0, 9), (35, 10, 1, 10), (33, 79, 3, 11), (5, 1, 0, 12), (37, 0, 1, 13), (3, 4, 0, 14), (43, 0, 0, 15), (2, 0, 7, 16), (33, 23, 1, 17), (5, 0, 0, 18), (5, 1, 0, 19), (37, 2, 1, 20), (3, 4, 0, 21), (43, 0, 0, 22), (1, 201, 2, 23), (5, 1, 0, 24), (5, 0, 0, 25), (3, 4, 0, 26), (1, 204, 2, 27), (3, 4, 0, 28), (2, 0, 1, 29), (10, 0, 0, 30), (1, 175, 3, 31), (5, 0, 0, 32), (35, 2, 3, 33), (33, 36, 2, 34), (2, 0, 1, 35), (31, 37, 0, 36), (2, 0, 0, 37), (6, 5, 0, 38), (3, 5, 0, 39), (32, 77, 0, 40), (5, 0, 0, 41), (35, 1, 3, 42), (2, 0, 6, 43), (33, 77, 4, 44), (5, 0, 0, 45), (37, 0, 3, 46), (5, 0, 0, 47), (35, 1, 3, 48), (3, 4, 0, 49), (2, 0, 1, 50), (10, 0, 0, 51), (48, 0, 0, 52), (5, 0, 0, 53), (28, 0, 0, 54), (35, 1, 3, 55), (2, 0, 1, 56), (10, 0, 0, 57), (38, 1, 3, 58), (3, 3, 0, 59), (3, 4, 0, 60), (3, 2, 0, 61), (33, 64, 2, 62), (2, 0, 1, 63), (31, 65, 0, 64), (2, 0, 0, 65), (10, 0, 0, 66), (6, 3, 0, 67), (5, 0, 0, 68), (35, 1, 3, 69), (5, 0, 0, 70), (35, 3, 3, 71), (33, 77, 5, 72), (5, 0, 0, 73), (5, 0, 0, 74), (5, 1, 0, 75), (1, 202, 2, 76), (1, 203, 2, 77), (9, 4, 1, 78), (31, 7, 0, 79), (3, 3, 0, 80), (0, 1, 0, 81)]
/-- EventLedger$Shots.letGoAbove (I)V -/
def ab_c201 : List ab_O := [(5, 0, 0, 1), (35, 1, 3, 2), (32, 19, 5, 3), (5, 0, 0, 4), (37, 0, 3, 5), (5, 0, 0, 6), (35, 1, 3, 7), (2, 0, 1, 8), (11, 0, 0, 9), (43, 0, 0, 10), (3, 1, 0, 11), (33, 19, 5, 12), (5, 0, 0, 13), (28, 0, 0, 14), (35, 1, 3, 15), (2, 0, 1, 16), (11, 0, 0, 17), (38, 1, 3, 18), (31, 0, 0, 19), (0, 0, 0, 20)]
/-- EventLedger$Shots.leastWorth (LEventLedger$Log;)I -/
def ab_c202 : List ab_O := [(5, 0, 0, 1), (35, 3, 3, 2), (32, 8, 1, 3), (5, 0, 0, 4), (35, 1, 3, 5), (2, 0, 1, 6), (11, 0, 0, 7), (0, 1, 0, 8), (2, 0, 0, 9), (6, 2, 0, 10), (2, 0, 2147483647, 11), (6, 3, 0, 12), (2, 0, 0, 13), (6, 4, 0, 14), (3, 4, 0, 15), (5, 0, 0, 16), (35, 1, 3, 17), (2, 0, 1, 18), (11, 0, 0, 19), (33, 48, 3, 20), (5, 1, 0, 21), (3, 4, 0, 22), (32, 30, 5, 23), (5, 0, 0, 24), (37, 0, 3, 25), (3, 4, 0, 26), (2, 0, 1, 27), (11, 0, 0, 28), (43, 0, 0, 29), (31, 31, 0, 30), (2, 0, 0, 31), (5, 0, 0, 32), (37, 0, 3, 33), (3, 4, 0, 34), (2, 0, 1, 35), (10, 0, 0, 36), (43, 0, 0, 37), (1, 175, 3, 38), (6, 5, 0, 39), (3, 5, 0, 40), (3, 3, 0, 41), (33, 46, 3, 42), (3, 5, 0, 43), (6, 3, 0, 44), (3, 4, 0, 45), (6, 2, 0, 46), (9, 4, 1, 47), (31, 14, 0, 48), (3, 2, 0, 49), (0, 1, 0, 50)]
/-- EventLedger$Shots.letGo (I)V -/
def ab_c203 : List ab_O := [(3, 1, 0, 1), (2, 0, 1, 2), (10, 0, 0, 3), (6, 2, 0, 4), (3, 2, 0, 5), (5, 0, 0, 6), (35, 1, 3, 7), (33, 20, 3, 8), (5, 0, 0, 9), (37, 0, 3, 10), (3, 2, 0, 11), (2, 0, 1, 12), (11, 0, 0, 13), (5, 0, 0, 14), (37, 0, 3, 15), (3, 2, 0, 16), (43, 0, 0, 17), (48, 0, 0, 18), (9, 2, 1, 19), (31, 4, 0, 20), (5, 0, 0, 21), (28, 0, 0, 22), (35, 1, 3, 23), (2, 0, 1, 24), (11, 0, 0, 25), (38, 1, 3, 26), (0, 0, 0, 27)]
/-- EventLedger$Shots.latestUpTo (I)I -/
def ab_c204 : List ab_O := [(2, 0, 0, 1), (6, 2, 0, 2), (2, 0, 0, 3), (6, 3, 0, 4), (3, 3, 0, 5), (5, 0, 0, 6), (35, 1, 3, 7), (33, 21, 3, 8), (5, 0, 0, 9), (37, 0, 3, 10), (3, 3, 0, 11), (43, 0, 0, 12), (3, 1, 0, 13), (33, 19, 4, 14), (5, 0, 0, 15), (37, 0, 3, 16), (3, 3, 0, 17), (43, 0, 0, 18), (6, 2, 0, 19), (9, 3, 1, 20), (31, 4, 0, 21), (3, 2, 0, 22), (0, 1, 0, 23)]
/-- EventLedger$Shots.nextBehind (II)I -/
def ab_c205 : List ab_O := [(2, 0, 0, 1), (6, 3, 0, 2), (3, 3, 0, 3), (5, 0, 0, 4), (35, 1, 3, 5), (33, 19, 3, 6), (5, 0, 0, 7), (37, 0, 3, 8), (3, 3, 0, 9), (43, 0, 0, 10), (3, 1, 0, 11), (33, 17, 5, 12), (5, 0, 0, 13), (37, 0, 3, 14), (3, 3, 0, 15), (43, 0, 0, 16), (0, 1, 0, 17), (9, 3, 1, 18), (31, 2, 0, 19), (3, 2, 0, 20), (0, 1, 0, 21)]
/-- EventLedger$State.<init> ()V -/
def ab_c206 : List ab_O := [(5, 0, 0, 1), (58, 0, 0, 2), (5, 0, 0, 3), (2, 0, 8, 4), (53, 0, 0, 5), (41, 0, 2, 6), (5, 0, 0, 7), (2, 0, 8, 8), (53, 0, 0, 9), (41, 1, 2, 10), (5, 0, 0, 11), (2, 0, 8, 12), (53, 0, 0, 13), (41, 2, 2, 14), (5, 0, 0, 15), (2, 0, 8, 16), (53, 0, 0, 17), (41, 3, 2, 18), (5, 0, 0, 19), (2, 0, 120, 20), (53, 0, 0, 21), (41, 4, 2, 22), (0, 0, 0, 23)]
/-- EventLedger$State.begin (II)V -/
def ab_c207 : List ab_O := [(2, 0, 0, 1), (6, 3, 0, 2), (3, 3, 0, 3), (2, 0, 8, 4), (33, 27, 3, 5), (5, 0, 0, 6), (37, 0, 2, 7), (3, 3, 0, 8), (2, 0, 0, 9), (48, 0, 0, 10), (5, 0, 0, 11), (37, 1, 2, 12), (3, 3, 0, 13), (2, 0, 0, 14), (48, 0, 0, 15), (5, 0, 0, 16), (37, 2, 2, 17), (3, 3, 0, 18), (2, 0, 0, 19), (48, 0, 0, 20), (5, 0, 0, 21), (37, 3, 2, 22), (3, 3, 0, 23), (2, 0, 0, 24), (48, 0, 0, 25), (9, 3, 1, 26), (31, 2, 0, 27), (5, 0, 0, 28), (3, 1, 0, 29), (38, 5, 2, 30), (5, 0, 0, 31), (3, 2, 0, 32), (38, 6, 2, 33), (0, 0, 0, 34)]
/-- EventLedger$State.replay (LEventLedger$Log;III)V -/
def ab_c208 : List ab_O := [(5, 0, 0, 1), (3, 3, 0, 2), (3, 4, 0, 3), (1, 207, 3, 4), (2, 0, 0, 5), (6, 5, 0, 6), (3, 5, 0, 7), (3, 2, 0, 8), (33, 15, 3, 9), (5, 0, 0, 10), (5, 1, 0, 11), (3, 5, 0, 12), (1, 209, 3, 13), (9, 5, 1, 14), (31, 6, 0, 15), (0, 0, 0, 16)]
/-- EventLedger$State.step (LEventLedger$Log;I)V -/
def ab_c209 : List ab_O := [(5, 0, 0, 1), (37, 4, 2, 2), (3, 2, 0, 3), (2, 0, 0, 4), (48, 0, 0, 5), (5, 0, 0, 6), (5, 1, 0, 7), (3, 2, 0, 8), (1, 210, 3, 9), (32, 27, 1, 10), (5, 0, 0, 11), (37, 4, 2, 12), (3, 2, 0, 13), (5, 0, 0, 14), (5, 1, 0, 15), (3, 2, 0, 16), (1, 211, 3, 17), (48, 0, 0, 18), (5, 0, 0, 19), (37, 4, 2, 20), (3, 2, 0, 21), (43, 0, 0, 22), (32, 27, 1, 23), (5, 0, 0, 24), (5, 1, 0, 25), (3, 2, 0, 26), (1, 213, 3, 27), (0, 0, 0, 28)]
/-- EventLedger$State.passesOver (LEventLedger$Log;I)Z -/
def ab_c210 : List ab_O := [(5, 1, 0, 1), (37, 8, 1, 2), (3, 2, 0, 3), (43, 0, 0, 4), (6, 3, 0, 5), (5, 1, 0, 6), (37, 0, 1, 7), (3, 2, 0, 8), (43, 0, 0, 9), (2, 0, 7, 10), (33, 22, 0, 11), (3, 2, 0, 12), (5, 0, 0, 13), (35, 6, 2, 14), (33, 22, 0, 15), (3, 3, 0, 16), (2, 0, -1, 17), (33, 24, 0, 18), (3, 3, 0, 19), (5, 0, 0, 20), (35, 5, 2, 21), (33, 24, 3, 22), (2, 0, 1, 23), (31, 25, 0, 24), (2, 0, 0, 25), (0, 2, 0, 26)]
/-- EventLedger$State.causeOf (LEventLedger$Log;I)I -/
def ab_c211 : List ab_O := [(5, 1, 0, 1), (37, 7, 1, 2), (3, 2, 0, 3), (43, 0, 0, 4), (32, 7, 0, 5), (2, 0, 1, 6), (0, 1, 0, 7), (5, 1, 0, 8), (37, 0, 1, 9), (3, 2, 0, 10), (43, 0, 0, 11), (6, 3, 0, 12), (5, 1, 0, 13), (37, 1, 1, 14), (3, 2, 0, 15), (43, 0, 0, 16), (6, 4, 0, 17), (3, 3, 0, 18), (32, 28, 1, 19), (5, 0, 0, 20), (37, 3, 2, 21), (3, 4, 0, 22), (43, 0, 0, 23), (32, 26, 0, 24), (2, 0, 2, 25), (31, 27, 0, 26), (2, 0, 0, 27), (0, 1, 0, 28), (5, 0, 0, 29), (37, 3, 2, 30), (3, 4, 0, 31), (43, 0, 0, 32), (32, 44, 0, 33), (3, 3, 0, 34), (2, 0, 6, 35), (33, 46, 1, 36), (5, 0, 0, 37), (37, 3, 2, 38), (5, 1, 0, 39), (37, 2, 1, 40), (3, 2, 0, 41), (43, 0, 0, 42), (43, 0, 0, 43), (32, 46, 1, 44), (2, 0, 2, 45), (0, 1, 0, 46), (5, 1, 0, 47), (37, 6, 1, 48), (2, 0, 3, 49), (3, 2, 0, 50), (12, 0, 0, 51), (43, 0, 0, 52), (6, 5, 0, 53), (5, 1, 0, 54), (37, 6, 1, 55), (2, 0, 3, 56), (3, 2, 0, 57), (12, 0, 0, 58), (2, 0, 1, 59), (10, 0, 0, 60), (43, 0, 0, 61), (6, 6, 0, 62), (5, 0, 0, 63), (3, 3, 0, 64), (3, 4, 0, 65), (3, 5, 0, 66), (3, 6, 0, 67), (1, 212, 5, 68), (32, 71, 0, 69), (2, 0, 3, 70), (31, 72, 0, 71), (2, 0, 0, 72), (0, 1, 0, 73)]
/-- EventLedger$State.isTooLittle (IIII)Z -/
def ab_c212 : List ab_O := [(3, 1, 0, 1), (34, 11, 0, 2), (5, 0, 0, 3), (37, 0, 2, 4), (3, 2, 0, 5), (43, 0, 0, 6), (3, 3, 0, 7), (11, 0, 0, 8), (3, 4, 0, 9), (11, 0, 0, 10), (5, 0, 0, 11), (37, 1, 2, 12), (3, 2, 0, 13), (43, 0, 0, 14), (11, 0, 0, 15), (5, 0, 0, 16), (37, 2, 2, 17), (3, 2, 0, 18), (43, 0, 0, 19), (20, 0, 0, 20), (33, 23, 3, 21), (2, 0, 1, 22), (31, 24, 0, 23), (2, 0, 0, 24), (0, 2, 0, 25), (5, 0, 0, 26), (37, 1, 2, 27), (3, 2, 0, 28), (43, 0, 0, 29), (3, 3, 0, 30), (10, 0, 0, 31), (5, 0, 0, 32), (37, 0, 2, 33), (3, 2, 0, 34), (43, 0, 0, 35), (33, 38, 5, 36), (2, 0, 1, 37), (31, 39, 0, 38), (2, 0, 0, 39), (0, 2, 0, 40), (5, 0, 0, 41), (37, 1, 2, 42), (3, 2, 0, 43), (43, 0, 0, 44), (3, 3, 0, 45), (11, 0, 0, 46), (32, 49, 3, 47), (2, 0, 1, 48), (31, 50, 0, 49), (2, 0, 0, 50), (0, 2, 0, 51), (5, 0, 0, 52), (37, 0, 2, 53), (3, 2, 0, 54), (43, 0, 0, 55), (32, 61, 1, 56), (5, 0, 0, 57), (37, 1, 2, 58), (3, 2, 0, 59), (43, 0, 0, 60), (32, 63, 0, 61), (2, 0, 1, 62), (31, 64, 0, 63), (2, 0, 0, 64), (0, 2, 0, 65), (2, 0, 0, 66), (0, 2, 0, 67)]
/-- EventLedger$State.change (LEventLedger$Log;I)V -/
def ab_c213 : List ab_O := [(5, 1, 0, 1), (37, 1, 1, 2), (3, 2, 0, 3), (43, 0, 0, 4), (6, 3, 0, 5), (5, 1, 0, 6), (37, 6, 1, 7), (2, 0, 3, 8), (3, 2, 0, 9), (12, 0, 0, 10), (43, 0, 0, 11), (6, 4, 0, 12), (5, 1, 0, 13), (37, 6, 1, 14), (2, 0, 3, 15), (3, 2, 0, 16), (12, 0, 0, 17), (2, 0, 1, 18), (10, 0, 0, 19), (43, 0, 0, 20), (6, 5, 0, 21), (5, 1, 0, 22), (37, 0, 1, 23), (3, 2, 0, 24), (43, 0, 0, 25), (34, 12, 0, 26), (5, 0, 0, 27), (37, 3, 2, 28), (3, 3, 0, 29), (2, 0, 1, 30), (48, 0, 0, 31), (5, 0, 0, 32), (37, 2, 2, 33), (3, 3, 0, 34), (3, 4, 0, 35), (48, 0, 0, 36), (5, 0, 0, 37), (37, 0, 2, 38), (3, 3, 0, 39), (2, 0, 0, 40), (48, 0, 0, 41), (5, 0, 0, 42), (37, 1, 2, 43), (3, 3, 0, 44), (2, 0, 0, 45), (48, 0, 0, 46), (31, 114, 0, 47), (5, 0, 0, 48), (37, 0, 2, 49), (3, 3, 0, 50), (29, 0, 0, 51), (43, 0, 0, 52), (3, 4, 0, 53), (3, 5, 0, 54), (11, 0, 0, 55), (10, 0, 0, 56), (48, 0, 0, 57), (31, 114, 0, 58), (5, 0, 0, 59), (37, 0, 2, 60), (3, 3, 0, 61), (29, 0, 0, 62), (43, 0, 0, 63), (3, 4, 0, 64), (3, 5, 0, 65), (10, 0, 0, 66), (11, 0, 0, 67), (48, 0, 0, 68), (31, 114, 0, 69), (5, 0, 0, 70), (37, 1, 2, 71), (3, 3, 0, 72), (29, 0, 0, 73), (43, 0, 0, 74), (3, 4, 0, 75), (10, 0, 0, 76), (48, 0, 0, 77), (31, 114, 0, 78), (5, 0, 0, 79), (37, 1, 2, 80), (3, 3, 0, 81), (29, 0, 0, 82), (43, 0, 0, 83), (3, 4, 0, 84), (11, 0, 0, 85), (48, 0, 0, 86), (31, 114, 0, 87), (5, 0, 0, 88), (37, 0, 2, 89), (3, 3, 0, 90), (29, 0, 0, 91), (43, 0, 0, 92), (3, 4, 0, 93), (3, 5, 0, 94), (10, 0, 0, 95), (11, 0, 0, 96), (48, 0, 0, 97), (5, 0, 0, 98), (37, 0, 2, 99), (5, 1, 0, 100), (37, 2, 1, 101), (3, 2, 0, 102), (43, 0, 0, 103), (29, 0, 0, 104), (43, 0, 0, 105), (3, 4, 0, 106), (10, 0, 0, 107), (48, 0, 0, 108), (31, 114, 0, 109), (5, 0, 0, 110), (37, 3, 2, 111), (3, 3, 0, 112), (2, 0, 0, 113), (48, 0, 0, 114), (0, 0, 0, 115)]
/-- EventLedger$State.look (II)I -/
def ab_c214 : List ab_O := [(3, 2, 0, 1), (34, 13, 0, 2), (5, 0, 0, 3), (37, 0, 2, 4), (3, 1, 0, 5), (43, 0, 0, 6), (0, 1, 0, 7), (5, 0, 0, 8), (37, 1, 2, 9), (3, 1, 0, 10), (43, 0, 0, 11), (0, 1, 0, 12), (5, 0, 0, 13), (37, 2, 2, 14), (3, 1, 0, 15), (43, 0, 0, 16), (0, 1, 0, 17), (5, 0, 0, 18), (37, 3, 2, 19), (3, 1, 0, 20), (43, 0, 0, 21), (0, 1, 0, 22), (2, 0, -2147483648, 23), (0, 1, 0, 24)]
/-- EventLedger$State.countAside (II)I -/
def ab_c215 : List ab_O := [(2, 0, 0, 1), (6, 3, 0, 2), (3, 1, 0, 3), (6, 4, 0, 4), (3, 4, 0, 5), (3, 2, 0, 6), (33, 15, 3, 7), (5, 0, 0, 8), (37, 4, 2, 9), (3, 4, 0, 10), (43, 0, 0, 11), (32, 13, 0, 12), (9, 3, 1, 13), (9, 4, 1, 14), (31, 4, 0, 15), (3, 3, 0, 16), (0, 1, 0, 17)]
/-- EventLedger$State.countOpen ()I -/
def ab_c216 : List ab_O := [(2, 0, 0, 1), (6, 1, 0, 2), (2, 0, 0, 3), (6, 2, 0, 4), (3, 2, 0, 5), (2, 0, 8, 6), (33, 16, 3, 7), (3, 1, 0, 8), (5, 0, 0, 9), (37, 3, 2, 10), (3, 2, 0, 11), (43, 0, 0, 12), (10, 0, 0, 13), (6, 1, 0, 14), (9, 2, 1, 15), (31, 4, 0, 16), (3, 1, 0, 17), (0, 1, 0, 18)]
/-- EventLedger$State.sumBalances ()I -/
def ab_c217 : List ab_O := [(2, 0, 0, 1), (6, 1, 0, 2), (2, 0, 0, 3), (6, 2, 0, 4), (3, 2, 0, 5), (2, 0, 8, 6), (33, 16, 3, 7), (3, 1, 0, 8), (5, 0, 0, 9), (37, 0, 2, 10), (3, 2, 0, 11), (43, 0, 0, 12), (10, 0, 0, 13), (6, 1, 0, 14), (9, 2, 1, 15), (31, 4, 0, 16), (3, 1, 0, 17), (0, 1, 0, 18)]
/-- EventLedger$Tallies.<init> ()V -/
def ab_c218 : List ab_O := [(5, 0, 0, 1), (58, 0, 0, 2), (5, 0, 0, 3), (2, 0, 4, 4), (53, 0, 0, 5), (41, 0, 4, 6), (5, 0, 0, 7), (2, 0, 120, 8), (53, 0, 0, 9), (41, 1, 4, 10), (0, 0, 0, 11)]
/-- EventLedger$Tallies.clear ()V -/
def ab_c219 : List ab_O := [(2, 0, 0, 1), (6, 1, 0, 2), (3, 1, 0, 3), (2, 0, 4, 4), (33, 10, 3, 5), (5, 0, 0, 6), (3, 1, 0, 7), (1, 220, 2, 8), (9, 1, 1, 9), (31, 2, 0, 10), (0, 0, 0, 11)]
/-- EventLedger$Tallies.restart (I)V -/
def ab_c220 : List ab_O := [(5, 0, 0, 1), (37, 0, 4, 2), (3, 1, 0, 3), (2, 0, 0, 4), (48, 0, 0, 5), (2, 0, 0, 6), (6, 2, 0, 7), (3, 2, 0, 8), (2, 0, 120, 9), (33, 16, 3, 10), (5, 0, 0, 11), (3, 1, 0, 12), (3, 2, 0, 13), (1, 222, 3, 14), (9, 2, 1, 15), (31, 7, 0, 16), (0, 0, 0, 17)]
/-- EventLedger$Tallies.putOn (II)V -/
def ab_c221 : List ab_O := [(5, 0, 0, 1), (37, 1, 4, 2), (3, 2, 0, 3), (29, 0, 0, 4), (43, 0, 0, 5), (2, 0, 1, 6), (3, 1, 0, 7), (16, 0, 0, 8), (14, 0, 0, 9), (48, 0, 0, 10), (0, 0, 0, 11)]
/-- EventLedger$Tallies.takeOff (II)V -/
def ab_c222 : List ab_O := [(5, 0, 0, 1), (37, 1, 4, 2), (3, 2, 0, 3), (29, 0, 0, 4), (43, 0, 0, 5), (2, 0, 1, 6), (3, 1, 0, 7), (16, 0, 0, 8), (2, 0, -1, 9), (15, 0, 0, 10), (13, 0, 0, 11), (48, 0, 0, 12), (0, 0, 0, 13)]
/-- EventLedger$Tallies.isCounted (II)Z -/
def ab_c223 : List ab_O := [(5, 0, 0, 1), (37, 1, 4, 2), (3, 2, 0, 3), (43, 0, 0, 4), (3, 1, 0, 5), (17, 0, 0, 6), (2, 0, 1, 7), (13, 0, 0, 8), (32, 11, 0, 9), (2, 0, 1, 10), (31, 12, 0, 11), (2, 0, 0, 12), (0, 2, 0, 13)]
/-- EventLedger$Tallies.countCounted (I)I -/
def ab_c224 : List ab_O := [(2, 0, 0, 1), (6, 2, 0, 2), (2, 0, 0, 3), (6, 3, 0, 4), (3, 3, 0, 5), (2, 0, 120, 6), (33, 20, 3, 7), (3, 2, 0, 8), (5, 0, 0, 9), (37, 1, 4, 10), (3, 3, 0, 11), (43, 0, 0, 12), (3, 1, 0, 13), (17, 0, 0, 14), (2, 0, 1, 15), (13, 0, 0, 16), (10, 0, 0, 17), (6, 2, 0, 18), (9, 3, 1, 19), (31, 4, 0, 20), (3, 2, 0, 21), (0, 1, 0, 22)]
/-- EventLedger$Tallies.copyFrom (LEventLedger$Tallies;)V -/
def ab_c225 : List ab_O := [(5, 1, 0, 1), (37, 0, 4, 2), (2, 0, 0, 3), (5, 0, 0, 4), (37, 0, 4, 5), (2, 0, 0, 6), (2, 0, 4, 7), (57, 0, 0, 8), (5, 1, 0, 9), (37, 1, 4, 10), (2, 0, 0, 11), (5, 0, 0, 12), (37, 1, 4, 13), (2, 0, 0, 14), (2, 0, 120, 15), (57, 0, 0, 16), (0, 0, 0, 17)]
/-- EventLedger$Terms.<init> ()V -/
def ab_c226 : List ab_O := [(5, 0, 0, 1), (58, 0, 0, 2), (5, 0, 0, 3), (2, 0, 8, 4), (53, 0, 0, 5), (41, 0, 6, 6), (5, 0, 0, 7), (2, 0, 4, 8), (53, 0, 0, 9), (41, 2, 6, 10), (5, 0, 0, 11), (2, 0, 4, 12), (53, 0, 0, 13), (41, 3, 6, 14), (5, 0, 0, 15), (2, 0, 4, 16), (53, 0, 0, 17), (41, 4, 6, 18), (5, 0, 0, 19), (2, 0, 14, 20), (53, 0, 0, 21), (41, 6, 6, 22), (5, 0, 0, 23), (2, 0, 56, 24), (53, 0, 0, 25), (41, 7, 6, 26), (5, 0, 0, 27), (2, 0, 56, 28), (53, 0, 0, 29), (41, 8, 6, 30), (5, 0, 0, 31), (2, 0, 56, 32), (53, 0, 0, 33), (41, 9, 6, 34), (5, 0, 0, 35), (2, 0, 20, 36), (38, 10, 6, 37), (5, 0, 0, 38), (2, 0, 3, 39), (38, 11, 6, 40), (0, 0, 0, 41)]
/-- EventLedger$Terms.clear ()V -/
def ab_c227 : List ab_O := [(5, 0, 0, 1), (2, 0, 0, 2), (38, 1, 6, 3), (5, 0, 0, 4), (2, 0, 0, 5), (38, 5, 6, 6), (2, 0, 0, 7), (6, 1, 0, 8), (3, 1, 0, 9), (2, 0, 14, 10), (33, 18, 3, 11), (5, 0, 0, 12), (37, 6, 6, 13), (3, 1, 0, 14), (2, 0, 0, 15), (48, 0, 0, 16), (9, 1, 1, 17), (31, 8, 0, 18), (5, 0, 0, 19), (2, 0, 20, 20), (38, 10, 6, 21), (5, 0, 0, 22), (2, 0, 3, 23), (38, 11, 6, 24), (5, 0, 0, 25), (2, 0, 0, 26), (38, 12, 6, 27), (0, 0, 0, 28)]
/-- EventLedger$Terms.accountNamed (I)I -/
def ab_c228 : List ab_O := [(5, 0, 0, 1), (37, 0, 6, 2), (5, 0, 0, 3), (35, 1, 6, 4), (3, 1, 0, 5), (1, 230, 3, 6), (0, 1, 0, 7)]
/-- EventLedger$Terms.tallyNamed (I)I -/
def ab_c229 : List ab_O := [(5, 0, 0, 1), (37, 2, 6, 2), (5, 0, 0, 3), (35, 5, 6, 4), (3, 1, 0, 5), (1, 230, 3, 6), (0, 1, 0, 7)]
/-- EventLedger$Terms.find ([III)I -/
def ab_c230 : List ab_O := [(2, 0, 0, 1), (6, 3, 0, 2), (3, 3, 0, 3), (3, 1, 0, 4), (33, 18, 3, 5), (3, 3, 0, 6), (5, 0, 0, 7), (61, 0, 0, 8), (33, 18, 3, 9), (5, 0, 0, 10), (3, 3, 0, 11), (43, 0, 0, 12), (3, 2, 0, 13), (33, 16, 1, 14), (3, 3, 0, 15), (0, 1, 0, 16), (9, 3, 1, 17), (31, 2, 0, 18), (2, 0, -1, 19), (0, 1, 0, 20)]
/-- EventLedger$Terms.addAccount (I)V -/
def ab_c231 : List ab_O := [(5, 0, 0, 1), (35, 1, 6, 2), (2, 0, 8, 3), (33, 16, 3, 4), (5, 0, 0, 5), (37, 0, 6, 6), (5, 0, 0, 7), (35, 1, 6, 8), (3, 1, 0, 9), (48, 0, 0, 10), (5, 0, 0, 11), (28, 0, 0, 12), (35, 1, 6, 13), (2, 0, 1, 14), (10, 0, 0, 15), (38, 1, 6, 16), (0, 0, 0, 17)]
/-- EventLedger$Terms.addTally (III)V -/
def ab_c232 : List ab_O := [(5, 0, 0, 1), (35, 5, 6, 2), (2, 0, 4, 3), (33, 28, 3, 4), (5, 0, 0, 5), (37, 2, 6, 6), (5, 0, 0, 7), (35, 5, 6, 8), (3, 1, 0, 9), (48, 0, 0, 10), (5, 0, 0, 11), (37, 3, 6, 12), (5, 0, 0, 13), (35, 5, 6, 14), (3, 2, 0, 15), (48, 0, 0, 16), (5, 0, 0, 17), (37, 4, 6, 18), (5, 0, 0, 19), (35, 5, 6, 20), (3, 3, 0, 21), (48, 0, 0, 22), (5, 0, 0, 23), (28, 0, 0, 24), (35, 5, 6, 25), (2, 0, 1, 26), (10, 0, 0, 27), (38, 5, 6, 28), (0, 0, 0, 29)]
/-- EventLedger$Terms.group (II)I -/
def ab_c233 : List ab_O := [(2, 0, 2, 1), (3, 0, 0, 2), (12, 0, 0, 3), (3, 1, 0, 4), (10, 0, 0, 5), (2, 0, 1, 6), (11, 0, 0, 7), (0, 1, 0, 8)]
/-- EventLedger$Terms.countSteps (II)I -/
def ab_c234 : List ab_O := [(5, 0, 0, 1), (37, 6, 6, 2), (3, 1, 0, 3), (3, 2, 0, 4), (1, 233, 2, 5), (43, 0, 0, 6), (0, 1, 0, 7)]
/-- EventLedger$Terms.addStep (IIIII)V -/
def ab_c235 : List ab_O := [(3, 1, 0, 1), (3, 2, 0, 2), (1, 233, 2, 3), (6, 6, 0, 4), (5, 0, 0, 5), (37, 6, 6, 6), (3, 6, 0, 7), (43, 0, 0, 8), (2, 0, 4, 9), (33, 42, 3, 10), (2, 0, 4, 11), (3, 6, 0, 12), (12, 0, 0, 13), (5, 0, 0, 14), (37, 6, 6, 15), (3, 6, 0, 16), (43, 0, 0, 17), (10, 0, 0, 18), (6, 7, 0, 19), (5, 0, 0, 20), (37, 7, 6, 21), (3, 7, 0, 22), (3, 3, 0, 23), (48, 0, 0, 24), (5, 0, 0, 25), (37, 8, 6, 26), (3, 7, 0, 27), (3, 4, 0, 28), (48, 0, 0, 29), (5, 0, 0, 30), (37, 9, 6, 31), (3, 7, 0, 32), (3, 5, 0, 33), (48, 0, 0, 34), (5, 0, 0, 35), (37, 6, 6, 36), (3, 6, 0, 37), (29, 0, 0, 38), (43, 0, 0, 39), (2, 0, 1, 40), (10, 0, 0, 41), (48, 0, 0, 42), (0, 0, 0, 43)]
/-- EventLedger$Terms.lift (LEventLedger$Log;III)V -/
def ab_c236 : List ab_O := [(5, 1, 0, 1), (3, 2, 0, 2), (1, 174, 2, 3), (5, 1, 0, 4), (37, 0, 1, 5), (3, 2, 0, 6), (43, 0, 0, 7), (6, 5, 0, 8), (3, 5, 0, 9), (2, 0, 7, 10), (33, 12, 1, 11), (0, 0, 0, 12), (5, 1, 0, 13), (37, 4, 1, 14), (3, 2, 0, 15), (43, 0, 0, 16), (6, 6, 0, 17), (3, 6, 0, 18), (2, 0, 3, 19), (33, 80, 3, 20), (3, 5, 0, 21), (3, 6, 0, 22), (1, 233, 2, 23), (6, 7, 0, 24), (3, 5, 0, 25), (3, 3, 0, 26), (33, 32, 1, 27), (3, 6, 0, 28), (3, 4, 0, 29), (33, 32, 1, 30), (2, 0, 0, 31), (31, 36, 0, 32), (5, 0, 0, 33), (37, 6, 6, 34), (3, 7, 0, 35), (43, 0, 0, 36), (6, 8, 0, 37), (2, 0, 0, 38), (6, 9, 0, 39), (3, 9, 0, 40), (3, 8, 0, 41), (33, 78, 3, 42), (2, 0, 4, 43), (3, 7, 0, 44), (12, 0, 0, 45), (3, 9, 0, 46), (10, 0, 0, 47), (6, 10, 0, 48), (5, 0, 0, 49), (5, 1, 0, 50), (2, 0, 3, 51), (3, 2, 0, 52), (12, 0, 0, 53), (3, 10, 0, 54), (1, 237, 4, 55), (5, 1, 0, 56), (37, 6, 1, 57), (2, 0, 3, 58), (3, 2, 0, 59), (12, 0, 0, 60), (5, 0, 0, 61), (37, 8, 6, 62), (3, 10, 0, 63), (43, 0, 0, 64), (10, 0, 0, 65), (2, 0, 1, 66), (11, 0, 0, 67), (43, 0, 0, 68), (2, 0, 1000000, 69), (33, 76, 5, 70), (5, 1, 0, 71), (37, 7, 1, 72), (3, 2, 0, 73), (2, 0, 1, 74), (48, 0, 0, 75), (0, 0, 0, 76), (9, 9, 1, 77), (31, 39, 0, 78), (9, 6, 1, 79), (31, 17, 0, 80), (0, 0, 0, 81)]
/-- EventLedger$Terms.takeStep (LEventLedger$Log;II)V -/
def ab_c237 : List ab_O := [(3, 2, 0, 1), (5, 0, 0, 2), (37, 8, 6, 3), (3, 3, 0, 4), (43, 0, 0, 5), (10, 0, 0, 6), (2, 0, 1, 7), (11, 0, 0, 8), (6, 4, 0, 9), (5, 0, 0, 10), (37, 9, 6, 11), (3, 3, 0, 12), (43, 0, 0, 13), (6, 5, 0, 14), (5, 0, 0, 15), (37, 7, 6, 16), (3, 3, 0, 17), (43, 0, 0, 18), (34, 14, 0, 19), (5, 1, 0, 20), (37, 6, 1, 21), (3, 4, 0, 22), (3, 5, 0, 23), (48, 0, 0, 24), (31, 55, 0, 25), (5, 1, 0, 26), (37, 6, 1, 27), (3, 4, 0, 28), (29, 0, 0, 29), (43, 0, 0, 30), (3, 5, 0, 31), (12, 0, 0, 32), (48, 0, 0, 33), (31, 55, 0, 34), (5, 1, 0, 35), (37, 6, 1, 36), (3, 4, 0, 37), (29, 0, 0, 38), (43, 0, 0, 39), (3, 5, 0, 40), (10, 0, 0, 41), (48, 0, 0, 42), (31, 55, 0, 43), (5, 1, 0, 44), (37, 6, 1, 45), (3, 4, 0, 46), (5, 1, 0, 47), (37, 6, 1, 48), (3, 2, 0, 49), (3, 5, 0, 50), (10, 0, 0, 51), (2, 0, 1, 52), (11, 0, 0, 53), (43, 0, 0, 54), (48, 0, 0, 55), (0, 0, 0, 56)]
/-- EventLedger$Tokens.<init> ([B)V -/
def ab_c238 : List ab_O := [(5, 0, 0, 1), (58, 0, 0, 2), (5, 0, 0, 3), (42, 0, -5, 4), (40, 5, 8, 5), (5, 0, 0, 6), (5, 1, 0, 7), (41, 0, 8, 8), (0, 0, 0, 9)]
/-- EventLedger$Tokens.begin (I)V -/
def ab_c239 : List ab_O := [(5, 0, 0, 1), (3, 1, 0, 2), (5, 0, 0, 3), (37, 0, 8, 4), (61, 1, 0, 5), (56, 0, 0, 6), (38, 1, 8, 7), (5, 0, 0, 8), (2, 0, 0, 9), (38, 2, 8, 10), (5, 0, 0, 11), (1, 240, 1, 12), (0, 0, 0, 13)]
/-- EventLedger$Tokens.advance ()V -/
def ab_c240 : List ab_O := [(5, 0, 0, 1), (35, 2, 8, 2), (5, 0, 0, 3), (35, 1, 8, 4), (33, 26, 3, 5), (5, 0, 0, 6), (37, 0, 8, 7), (5, 0, 0, 8), (35, 2, 8, 9), (44, 0, 0, 10), (2, 0, 10, 11), (33, 19, 0, 12), (5, 0, 0, 13), (37, 0, 8, 14), (5, 0, 0, 15), (35, 2, 8, 16), (44, 0, 0, 17), (2, 0, 32, 18), (33, 26, 1, 19), (5, 0, 0, 20), (28, 0, 0, 21), (35, 2, 8, 22), (2, 0, 1, 23), (10, 0, 0, 24), (38, 2, 8, 25), (31, 0, 0, 26), (5, 0, 0, 27), (5, 0, 0, 28), (35, 2, 8, 29), (38, 4, 8, 30), (5, 0, 0, 31), (35, 2, 8, 32), (5, 0, 0, 33), (35, 1, 8, 34), (33, 39, 2, 35), (5, 0, 0, 36), (2, 0, 0, 37), (38, 3, 8, 38), (31, 77, 0, 39), (5, 0, 0, 40), (37, 0, 8, 41), (5, 0, 0, 42), (35, 2, 8, 43), (44, 0, 0, 44), (1, 243, 1, 45), (32, 49, 0, 46), (5, 0, 0, 47), (1, 241, 1, 48), (31, 77, 0, 49), (5, 0, 0, 50), (37, 0, 8, 51), (5, 0, 0, 52), (35, 2, 8, 53), (44, 0, 0, 54), (1, 244, 1, 55), (32, 59, 0, 56), (5, 0, 0, 57), (1, 242, 1, 58), (31, 77, 0, 59), (5, 0, 0, 60), (5, 0, 0, 61), (37, 0, 8, 62), (5, 0, 0, 63), (35, 2, 8, 64), (44, 0, 0, 65), (2, 0, 59, 66), (33, 69, 1, 67), (2, 0, 4, 68), (31, 70, 0, 69), (2, 0, 5, 70), (38, 3, 8, 71), (5, 0, 0, 72), (28, 0, 0, 73), (35, 2, 8, 74), (2, 0, 1, 75), (10, 0, 0, 76), (38, 2, 8, 77), (0, 0, 0, 78)]
/-- EventLedger$Tokens.readWord ()V -/
def ab_c241 : List ab_O := [(27, 0, 0, 1), (7, 1, 0, 2), (5, 0, 0, 3), (35, 2, 8, 4), (5, 0, 0, 5), (35, 1, 8, 6), (33, 43, 3, 7), (5, 0, 0, 8), (37, 0, 8, 9), (5, 0, 0, 10), (35, 2, 8, 11), (44, 0, 0, 12), (1, 243, 1, 13), (32, 43, 0, 14), (5, 0, 0, 15), (35, 2, 8, 16), (5, 0, 0, 17), (35, 4, 8, 18), (11, 0, 0, 19), (2, 0, 7, 20), (33, 36, 3, 21), (4, 1, 0, 22), (2, 0, 5, 23), (25, 0, 0, 24), (5, 0, 0, 25), (37, 0, 8, 26), (5, 0, 0, 27), (35, 2, 8, 28), (44, 0, 0, 29), (2, 0, 97, 30), (11, 0, 0, 31), (2, 0, 1, 32), (10, 0, 0, 33), (22, 0, 0, 34), (24, 0, 0, 35), (7, 1, 0, 36), (5, 0, 0, 37), (28, 0, 0, 38), (35, 2, 8, 39), (2, 0, 1, 40), (10, 0, 0, 41), (38, 2, 8, 42), (31, 2, 0, 43), (5, 0, 0, 44), (35, 2, 8, 45), (5, 0, 0, 46), (35, 4, 8, 47), (11, 0, 0, 48), (6, 3, 0, 49), (5, 0, 0, 50), (3, 3, 0, 51), (2, 0, 6, 52), (33, 55, 4, 53), (2, 0, 2, 54), (31, 56, 0, 55), (2, 0, 5, 56), (38, 3, 8, 57), (5, 0, 0, 58), (3, 3, 0, 59), (2, 0, 6, 60), (33, 70, 4, 61), (4, 1, 0, 62), (2, 0, 5, 63), (2, 0, 6, 64), (3, 3, 0, 65), (11, 0, 0, 66), (12, 0, 0, 67), (25, 0, 0, 68), (23, 0, 0, 69), (31, 71, 0, 70), (2, 0, 0, 71), (38, 6, 8, 72), (2, 0, 0, 73), (6, 4, 0, 74), (3, 4, 0, 75), (42, 0, -3, 76), (62, 0, 0, 77), (33, 98, 3, 78), (3, 3, 0, 79), (2, 0, 7, 80), (33, 98, 4, 81), (42, 0, -3, 82), (3, 4, 0, 83), (63, 0, 0, 84), (65, 1, 0, 85), (4, 1, 0, 86), (26, 0, 0, 87), (32, 96, 1, 88), (5, 0, 0, 89), (2, 0, 1, 90), (38, 3, 8, 91), (5, 0, 0, 92), (42, 0, -3, 93), (3, 4, 0, 94), (63, 0, 0, 95), (40, 5, 8, 96), (9, 4, 1, 97), (31, 74, 0, 98), (0, 0, 0, 99)]
/-- EventLedger$Tokens.readNumber ()V -/
def ab_c242 : List ab_O := [(5, 0, 0, 1), (2, 0, 0, 2), (38, 7, 8, 3), (5, 0, 0, 4), (35, 2, 8, 5), (5, 0, 0, 6), (35, 1, 8, 7), (33, 40, 3, 8), (5, 0, 0, 9), (37, 0, 8, 10), (5, 0, 0, 11), (35, 2, 8, 12), (44, 0, 0, 13), (1, 244, 1, 14), (32, 40, 0, 15), (5, 0, 0, 16), (35, 7, 8, 17), (2, 0, 1000000, 18), (33, 33, 3, 19), (5, 0, 0, 20), (2, 0, 10, 21), (5, 0, 0, 22), (35, 7, 8, 23), (12, 0, 0, 24), (5, 0, 0, 25), (37, 0, 8, 26), (5, 0, 0, 27), (35, 2, 8, 28), (44, 0, 0, 29), (10, 0, 0, 30), (2, 0, 48, 31), (11, 0, 0, 32), (38, 7, 8, 33), (5, 0, 0, 34), (28, 0, 0, 35), (35, 2, 8, 36), (2, 0, 1, 37), (10, 0, 0, 38), (38, 2, 8, 39), (31, 3, 0, 40), (5, 0, 0, 41), (2, 0, 3, 42), (38, 3, 8, 43), (0, 0, 0, 44)]
/-- EventLedger$Tokens.isLetter (B)Z -/
def ab_c243 : List ab_O := [(3, 0, 0, 1), (2, 0, 97, 2), (33, 8, 2, 3), (3, 0, 0, 4), (2, 0, 122, 5), (33, 8, 4, 6), (2, 0, 1, 7), (31, 9, 0, 8), (2, 0, 0, 9), (0, 2, 0, 10)]
/-- EventLedger$Tokens.isDigit (B)Z -/
def ab_c244 : List ab_O := [(3, 0, 0, 1), (2, 0, 48, 2), (33, 8, 2, 3), (3, 0, 0, 4), (2, 0, 57, 5), (33, 8, 4, 6), (2, 0, 1, 7), (31, 9, 0, 8), (2, 0, 0, 9), (0, 2, 0, 10)]
/-- EventLedgerLaw.of (LEventLedger;II[J)I -/
def ab_c245 : List ab_O := [(5, 3, 0, 1), (2, 0, 0, 2), (5, 0, 0, 3), (3, 1, 0, 4), (3, 2, 0, 5), (1, 8, 3, 6), (22, 0, 0, 7), (51, 0, 0, 8), (31, 15, 0, 9), (8, 4, 0, 10), (2, 0, 1, 11), (0, 1, 0, 12), (8, 4, 0, 13), (2, 0, 2, 14), (0, 1, 0, 15), (2, 0, 0, 16), (0, 1, 0, 17)]
/-- EventLedgerLaw.law ([I)Z -/
def ab_c246 : List ab_O := [(52, 0, 0, 1), (28, 0, 0, 2), (1, 0, 1, 3), (8, 1, 0, 4), (52, 9, 0, 5), (28, 0, 0, 6), (1, 58, 1, 7), (8, 2, 0, 8), (2, 0, 1, 9), (53, 3, 0, 10), (8, 3, 0, 11), (2, 0, 0, 12), (6, 4, 0, 13), (3, 4, 0, 14), (5, 0, 0, 15), (68, 0, 0, 16), (2, 0, 7, 17), (11, 0, 0, 18), (33, 941, 4, 19), (5, 0, 0, 20), (3, 4, 0, 21), (67, 0, 0, 22), (2, 0, 63, 23), (13, 0, 0, 24), (34, 15, 0, 25), (5, 1, 0, 26), (5, 0, 0, 27), (3, 4, 0, 28), (2, 0, 1, 29), (10, 0, 0, 30), (67, 0, 0, 31), (5, 0, 0, 32), (3, 4, 0, 33), (2, 0, 2, 34), (10, 0, 0, 35), (67, 0, 0, 36), (5, 0, 0, 37), (3, 4, 0, 38), (2, 0, 3, 39), (10, 0, 0, 40), (67, 0, 0, 41), (5, 0, 0, 42), (3, 4, 0, 43), (2, 0, 4, 44), (10, 0, 0, 45), (67, 0, 0, 46), (5, 0, 0, 47), (3, 4, 0, 48), (2, 0, 5, 49), (10, 0, 0, 50), (67, 0, 0, 51), (1, 1, 6, 52), (5, 2, 0, 53), (5, 0, 0, 54), (3, 4, 0, 55), (2, 0, 1, 56), (10, 0, 0, 57), (67, 0, 0, 58), (5, 0, 0, 59), (3, 4, 0, 60), (2, 0, 2, 61), (10, 0, 0, 62), (67, 0, 0, 63), (5, 0, 0, 64), (3, 4, 0, 65), (2, 0, 3, 66), (10, 0, 0, 67), (67, 0, 0, 68), (5, 0, 0, 69), (3, 4, 0, 70), (2, 0, 4, 71), (10, 0, 0, 72), (67, 0, 0, 73), (5, 0, 0, 74), (3, 4, 0, 75), (2, 0, 5, 76), (10, 0, 0, 77), (67, 0, 0, 78), (1, 60, 6, 79), (33, 939, 0, 80), (2, 0, 0, 81), (0, 2, 0, 82), (5, 1, 0, 83), (5, 0, 0, 84), (3, 4, 0, 85), (2, 0, 1, 86), (10, 0, 0, 87), (67, 0, 0, 88), (1, 2, 2, 89), (5, 2, 0, 90), (5, 0, 0, 91), (3, 4, 0, 92), (2, 0, 1, 93), (10, 0, 0, 94), (67, 0, 0, 95), (1, 89, 2, 96), (33, 939, 0, 97), (2, 0, 0, 98), (0, 2, 0, 99), (5, 1, 0, 100), (5, 0, 0, 101), (3, 4, 0, 102), (2, 0, 1, 103), (10, 0, 0, 104), (67, 0, 0, 105), (1, 3, 2, 106), (5, 2, 0, 107), (5, 0, 0, 108), (3, 4, 0, 109), (2, 0, 1, 110), (10, 0, 0, 111), (67, 0, 0, 112), (1, 90, 2, 113), (33, 939, 0, 114), (2, 0, 0, 115), (0, 2, 0, 116), (5, 1, 0, 117), (5, 0, 0, 118), (3, 4, 0, 119), (2, 0, 1, 120), (10, 0, 0, 121), (67, 0, 0, 122), (5, 0, 0, 123), (3, 4, 0, 124), (2, 0, 2, 125), (10, 0, 0, 126), (67, 0, 0, 127), (1, 4, 3, 128), (5, 2, 0, 129), (5, 0, 0, 130), (3, 4, 0, 131), (2, 0, 1, 132), (10, 0, 0, 133), (67, 0, 0, 134), (5, 0, 0, 135), (3, 4, 0, 136), (2, 0, 2, 137), (10, 0, 0, 138), (67, 0, 0, 139), (1, 93, 3, 140), (33, 939, 0, 141), (2, 0, 0, 142), (0, 2, 0, 143), (5, 1, 0, 144), (5, 0, 0, 145), (3, 4, 0, 146), (2, 0, 1, 147), (10, 0, 0, 148), (67, 0, 0, 149), (5, 0, 0, 150), (3, 4, 0, 151), (2, 0, 2, 152), (10, 0, 0, 153), (67, 0, 0, 154), (5, 0, 0, 155), (3, 4, 0, 156), (2, 0, 3, 157), (10, 0, 0, 158), (67, 0, 0, 159), (5, 0, 0, 160), (3, 4, 0, 161), (2, 0, 4, 162), (10, 0, 0, 163), (67, 0, 0, 164), (5, 0, 0, 165), (3, 4, 0, 166), (2, 0, 5, 167), (10, 0, 0, 168), (67, 0, 0, 169), (5, 0, 0, 170), (3, 4, 0, 171), (2, 0, 6, 172), (10, 0, 0, 173), (67, 0, 0, 174), (1, 5, 7, 175), (5, 2, 0, 176), (5, 0, 0, 177), (3, 4, 0, 178), (2, 0, 1, 179), (10, 0, 0, 180), (67, 0, 0, 181), (5, 0, 0, 182), (3, 4, 0, 183), (2, 0, 2, 184), (10, 0, 0, 185), (67, 0, 0, 186), (5, 0, 0, 187), (3, 4, 0, 188), (2, 0, 3, 189), (10, 0, 0, 190), (67, 0, 0, 191), (5, 0, 0, 192), (3, 4, 0, 193), (2, 0, 4, 194), (10, 0, 0, 195), (67, 0, 0, 196), (5, 0, 0, 197), (3, 4, 0, 198), (2, 0, 5, 199), (10, 0, 0, 200), (67, 0, 0, 201), (5, 0, 0, 202), (3, 4, 0, 203), (2, 0, 6, 204), (10, 0, 0, 205), (67, 0, 0, 206), (1, 123, 7, 207), (33, 939, 0, 208), (2, 0, 0, 209), (0, 2, 0, 210), (5, 1, 0, 211), (5, 0, 0, 212), (3, 4, 0, 213), (2, 0, 1, 214), (10, 0, 0, 215), (67, 0, 0, 216), (5, 0, 0, 217), (3, 4, 0, 218), (2, 0, 2, 219), (10, 0, 0, 220), (67, 0, 0, 221), (5, 0, 0, 222), (3, 4, 0, 223), (2, 0, 3, 224), (10, 0, 0, 225), (67, 0, 0, 226), (5, 0, 0, 227), (3, 4, 0, 228), (2, 0, 4, 229), (10, 0, 0, 230), (67, 0, 0, 231), (5, 0, 0, 232), (3, 4, 0, 233), (2, 0, 5, 234), (10, 0, 0, 235), (67, 0, 0, 236), (1, 6, 6, 237), (5, 2, 0, 238), (5, 0, 0, 239), (3, 4, 0, 240), (2, 0, 1, 241), (10, 0, 0, 242), (67, 0, 0, 243), (5, 0, 0, 244), (3, 4, 0, 245), (2, 0, 2, 246), (10, 0, 0, 247), (67, 0, 0, 248), (5, 0, 0, 249), (3, 4, 0, 250), (2, 0, 3, 251), (10, 0, 0, 252), (67, 0, 0, 253), (5, 0, 0, 254), (3, 4, 0, 255), (2, 0, 4, 256), (10, 0, 0, 257), (67, 0, 0, 258), (5, 0, 0, 259), (3, 4, 0, 260), (2, 0, 5, 261), (10, 0, 0, 262), (67, 0, 0, 263), (1, 124, 6, 264), (33, 939, 0, 265), (2, 0, 0, 266), (0, 2, 0, 267), (5, 1, 0, 268), (5, 0, 0, 269), (3, 4, 0, 270), (2, 0, 1, 271), (10, 0, 0, 272), (67, 0, 0, 273), (5, 0, 0, 274), (3, 4, 0, 275), (2, 0, 2, 276), (10, 0, 0, 277), (67, 0, 0, 278), (1, 7, 3, 279), (5, 2, 0, 280), (5, 0, 0, 281), (3, 4, 0, 282), (2, 0, 1, 283), (10, 0, 0, 284), (67, 0, 0, 285), (5, 0, 0, 286), (3, 4, 0, 287), (2, 0, 2, 288), (10, 0, 0, 289), (67, 0, 0, 290), (1, 126, 3, 291), (33, 939, 0, 292), (2, 0, 0, 293), (0, 2, 0, 294), (5, 1, 0, 295), (5, 0, 0, 296), (3, 4, 0, 297), (2, 0, 1, 298), (10, 0, 0, 299), (67, 0, 0, 300), (5, 0, 0, 301), (3, 4, 0, 302), (2, 0, 2, 303), (10, 0, 0, 304), (67, 0, 0, 305), (5, 3, 0, 306), (73, 245, 4, 307), (6, 5, 0, 308), (5, 2, 0, 309), (5, 0, 0, 310), (3, 4, 0, 311), (2, 0, 1, 312), (10, 0, 0, 313), (67, 0, 0, 314), (5, 0, 0, 315), (3, 4, 0, 316), (2, 0, 2, 317), (10, 0, 0, 318), (67, 0, 0, 319), (1, 127, 3, 320), (6, 6, 0, 321), (5, 2, 0, 322), (1, 59, 1, 323), (3, 5, 0, 324), (33, 327, 0, 325), (2, 0, 0, 326), (0, 2, 0, 327), (3, 5, 0, 328), (32, 338, 1, 329), (5, 3, 0, 330), (2, 0, 0, 331), (46, 0, 0, 332), (3, 6, 0, 333), (22, 0, 0, 334), (26, 0, 0, 335), (32, 338, 0, 336), (2, 0, 0, 337), (0, 2, 0, 338), (31, 939, 0, 339), (5, 1, 0, 340), (5, 0, 0, 341), (3, 4, 0, 342), (2, 0, 1, 343), (10, 0, 0, 344), (67, 0, 0, 345), (5, 0, 0, 346), (3, 4, 0, 347), (2, 0, 2, 348), (10, 0, 0, 349), (67, 0, 0, 350), (5, 0, 0, 351), (3, 4, 0, 352), (2, 0, 3, 353), (10, 0, 0, 354), (67, 0, 0, 355), (32, 358, 0, 356), (2, 0, 1, 357), (31, 359, 0, 358), (2, 0, 0, 359), (1, 9, 4, 360), (5, 2, 0, 361), (5, 0, 0, 362), (3, 4, 0, 363), (2, 0, 1, 364), (10, 0, 0, 365), (67, 0, 0, 366), (5, 0, 0, 367), (3, 4, 0, 368), (2, 0, 2, 369), (10, 0, 0, 370), (67, 0, 0, 371), (5, 0, 0, 372), (3, 4, 0, 373), (2, 0, 3, 374), (10, 0, 0, 375), (67, 0, 0, 376), (32, 379, 0, 377), (2, 0, 1, 378), (31, 380, 0, 379), (2, 0, 0, 380), (1, 128, 4, 381), (33, 939, 0, 382), (2, 0, 0, 383), (0, 2, 0, 384), (5, 1, 0, 385), (5, 0, 0, 386), (3, 4, 0, 387), (2, 0, 1, 388), (10, 0, 0, 389), (67, 0, 0, 390), (5, 0, 0, 391), (3, 4, 0, 392), (2, 0, 2, 393), (10, 0, 0, 394), (67, 0, 0, 395), (1, 10, 3, 396), (5, 2, 0, 397), (5, 0, 0, 398), (3, 4, 0, 399), (2, 0, 1, 400), (10, 0, 0, 401), (67, 0, 0, 402), (5, 0, 0, 403), (3, 4, 0, 404), (2, 0, 2, 405), (10, 0, 0, 406), (67, 0, 0, 407), (1, 130, 3, 408), (33, 939, 0, 409), (2, 0, 0, 410), (0, 2, 0, 411), (5, 1, 0, 412), (5, 0, 0, 413), (3, 4, 0, 414), (2, 0, 1, 415), (10, 0, 0, 416), (67, 0, 0, 417), (5, 0, 0, 418), (3, 4, 0, 419), (2, 0, 2, 420), (10, 0, 0, 421), (67, 0, 0, 422), (5, 0, 0, 423), (3, 4, 0, 424), (2, 0, 3, 425), (10, 0, 0, 426), (67, 0, 0, 427), (1, 11, 4, 428), (5, 2, 0, 429), (5, 0, 0, 430), (3, 4, 0, 431), (2, 0, 1, 432), (10, 0, 0, 433), (67, 0, 0, 434), (5, 0, 0, 435), (3, 4, 0, 436), (2, 0, 2, 437), (10, 0, 0, 438), (67, 0, 0, 439), (5, 0, 0, 440), (3, 4, 0, 441), (2, 0, 3, 442), (10, 0, 0, 443), (67, 0, 0, 444), (1, 131, 4, 445), (33, 939, 0, 446), (2, 0, 0, 447), (0, 2, 0, 448), (5, 1, 0, 449), (5, 0, 0, 450), (3, 4, 0, 451), (2, 0, 1, 452), (10, 0, 0, 453), (67, 0, 0, 454), (5, 0, 0, 455), (3, 4, 0, 456), (2, 0, 2, 457), (10, 0, 0, 458), (67, 0, 0, 459), (5, 0, 0, 460), (3, 4, 0, 461), (2, 0, 3, 462), (10, 0, 0, 463), (67, 0, 0, 464), (1, 12, 4, 465), (5, 2, 0, 466), (5, 0, 0, 467), (3, 4, 0, 468), (2, 0, 1, 469), (10, 0, 0, 470), (67, 0, 0, 471), (5, 0, 0, 472), (3, 4, 0, 473), (2, 0, 2, 474), (10, 0, 0, 475), (67, 0, 0, 476), (5, 0, 0, 477), (3, 4, 0, 478), (2, 0, 3, 479), (10, 0, 0, 480), (67, 0, 0, 481), (1, 132, 4, 482), (33, 939, 0, 483), (2, 0, 0, 484), (0, 2, 0, 485), (5, 1, 0, 486), (5, 0, 0, 487), (3, 4, 0, 488), (2, 0, 1, 489), (10, 0, 0, 490), (67, 0, 0, 491), (1, 13, 2, 492), (5, 2, 0, 493), (5, 0, 0, 494), (3, 4, 0, 495), (2, 0, 1, 496), (10, 0, 0, 497), (67, 0, 0, 498), (1, 134, 2, 499), (33, 939, 0, 500), (2, 0, 0, 501), (0, 2, 0, 502), (5, 1, 0, 503), (5, 0, 0, 504), (3, 4, 0, 505), (2, 0, 1, 506), (10, 0, 0, 507), (67, 0, 0, 508), (1, 14, 2, 509), (5, 2, 0, 510), (5, 0, 0, 511), (3, 4, 0, 512), (2, 0, 1, 513), (10, 0, 0, 514), (67, 0, 0, 515), (1, 135, 2, 516), (33, 939, 0, 517), (2, 0, 0, 518), (0, 2, 0, 519), (5, 1, 0, 520), (5, 0, 0, 521), (3, 4, 0, 522), (2, 0, 1, 523), (10, 0, 0, 524), (67, 0, 0, 525), (1, 15, 2, 526), (5, 2, 0, 527), (5, 0, 0, 528), (3, 4, 0, 529), (2, 0, 1, 530), (10, 0, 0, 531), (67, 0, 0, 532), (1, 136, 2, 533), (33, 939, 0, 534), (2, 0, 0, 535), (0, 2, 0, 536), (5, 1, 0, 537), (5, 0, 0, 538), (3, 4, 0, 539), (2, 0, 1, 540), (10, 0, 0, 541), (67, 0, 0, 542), (5, 0, 0, 543), (3, 4, 0, 544), (2, 0, 2, 545), (10, 0, 0, 546), (67, 0, 0, 547), (5, 0, 0, 548), (3, 4, 0, 549), (2, 0, 3, 550), (10, 0, 0, 551), (67, 0, 0, 552), (1, 16, 4, 553), (5, 2, 0, 554), (5, 0, 0, 555), (3, 4, 0, 556), (2, 0, 1, 557), (10, 0, 0, 558), (67, 0, 0, 559), (5, 0, 0, 560), (3, 4, 0, 561), (2, 0, 2, 562), (10, 0, 0, 563), (67, 0, 0, 564), (5, 0, 0, 565), (3, 4, 0, 566), (2, 0, 3, 567), (10, 0, 0, 568), (67, 0, 0, 569), (1, 137, 4, 570), (33, 939, 0, 571), (2, 0, 0, 572), (0, 2, 0, 573), (5, 1, 0, 574), (5, 0, 0, 575), (3, 4, 0, 576), (2, 0, 1, 577), (10, 0, 0, 578), (67, 0, 0, 579), (1, 17, 2, 580), (5, 2, 0, 581), (5, 0, 0, 582), (3, 4, 0, 583), (2, 0, 1, 584), (10, 0, 0, 585), (67, 0, 0, 586), (1, 139, 2, 587), (33, 939, 0, 588), (2, 0, 0, 589), (0, 2, 0, 590), (5, 1, 0, 591), (5, 0, 0, 592), (3, 4, 0, 593), (2, 0, 1, 594), (10, 0, 0, 595), (67, 0, 0, 596), (1, 18, 2, 597), (5, 2, 0, 598), (5, 0, 0, 599), (3, 4, 0, 600), (2, 0, 1, 601), (10, 0, 0, 602), (67, 0, 0, 603), (1, 141, 2, 604), (33, 939, 0, 605), (2, 0, 0, 606), (0, 2, 0, 607), (5, 1, 0, 608), (5, 0, 0, 609), (3, 4, 0, 610), (2, 0, 1, 611), (10, 0, 0, 612), (67, 0, 0, 613), (1, 19, 2, 614), (5, 2, 0, 615), (5, 0, 0, 616), (3, 4, 0, 617), (2, 0, 1, 618), (10, 0, 0, 619), (67, 0, 0, 620), (1, 142, 2, 621), (33, 939, 0, 622), (2, 0, 0, 623), (0, 2, 0, 624), (5, 1, 0, 625), (5, 0, 0, 626), (3, 4, 0, 627), (2, 0, 1, 628), (10, 0, 0, 629), (67, 0, 0, 630), (5, 0, 0, 631), (3, 4, 0, 632), (2, 0, 2, 633), (10, 0, 0, 634), (67, 0, 0, 635), (1, 20, 3, 636), (5, 2, 0, 637), (5, 0, 0, 638), (3, 4, 0, 639), (2, 0, 1, 640), (10, 0, 0, 641), (67, 0, 0, 642), (5, 0, 0, 643), (3, 4, 0, 644), (2, 0, 2, 645), (10, 0, 0, 646), (67, 0, 0, 647), (1, 143, 3, 648), (33, 939, 0, 649), (2, 0, 0, 650), (0, 2, 0, 651), (5, 1, 0, 652), (5, 0, 0, 653), (3, 4, 0, 654), (2, 0, 1, 655), (10, 0, 0, 656), (67, 0, 0, 657), (1, 21, 2, 658), (5, 2, 0, 659), (5, 0, 0, 660), (3, 4, 0, 661), (2, 0, 1, 662), (10, 0, 0, 663), (67, 0, 0, 664), (1, 145, 2, 665), (33, 939, 0, 666), (2, 0, 0, 667), (0, 2, 0, 668), (5, 1, 0, 669), (5, 0, 0, 670), (3, 4, 0, 671), (2, 0, 1, 672), (10, 0, 0, 673), (67, 0, 0, 674), (5, 0, 0, 675), (3, 4, 0, 676), (2, 0, 2, 677), (10, 0, 0, 678), (67, 0, 0, 679), (1, 22, 3, 680), (5, 2, 0, 681), (5, 0, 0, 682), (3, 4, 0, 683), (2, 0, 1, 684), (10, 0, 0, 685), (67, 0, 0, 686), (5, 0, 0, 687), (3, 4, 0, 688), (2, 0, 2, 689), (10, 0, 0, 690), (67, 0, 0, 691), (1, 146, 3, 692), (33, 939, 0, 693), (2, 0, 0, 694), (0, 2, 0, 695), (5, 1, 0, 696), (5, 0, 0, 697), (3, 4, 0, 698), (2, 0, 1, 699), (10, 0, 0, 700), (67, 0, 0, 701), (1, 23, 2, 702), (5, 2, 0, 703), (5, 0, 0, 704), (3, 4, 0, 705), (2, 0, 1, 706), (10, 0, 0, 707), (67, 0, 0, 708), (1, 144, 2, 709), (33, 939, 0, 710), (2, 0, 0, 711), (0, 2, 0, 712), (5, 1, 0, 713), (5, 0, 0, 714), (3, 4, 0, 715), (2, 0, 1, 716), (10, 0, 0, 717), (67, 0, 0, 718), (5, 0, 0, 719), (3, 4, 0, 720), (2, 0, 2, 721), (10, 0, 0, 722), (67, 0, 0, 723), (1, 24, 3, 724), (5, 2, 0, 725), (5, 0, 0, 726), (3, 4, 0, 727), (2, 0, 1, 728), (10, 0, 0, 729), (67, 0, 0, 730), (5, 0, 0, 731), (3, 4, 0, 732), (2, 0, 2, 733), (10, 0, 0, 734), (67, 0, 0, 735), (1, 147, 3, 736), (33, 939, 0, 737), (2, 0, 0, 738), (0, 2, 0, 739), (5, 1, 0, 740), (5, 0, 0, 741), (3, 4, 0, 742), (2, 0, 1, 743), (10, 0, 0, 744), (67, 0, 0, 745), (5, 0, 0, 746), (3, 4, 0, 747), (2, 0, 2, 748), (10, 0, 0, 749), (67, 0, 0, 750), (1, 25, 3, 751), (5, 2, 0, 752), (5, 0, 0, 753), (3, 4, 0, 754), (2, 0, 1, 755), (10, 0, 0, 756), (67, 0, 0, 757), (5, 0, 0, 758), (3, 4, 0, 759), (2, 0, 2, 760), (10, 0, 0, 761), (67, 0, 0, 762), (1, 140, 3, 763), (33, 939, 0, 764), (2, 0, 0, 765), (0, 2, 0, 766), (5, 1, 0, 767), (5, 0, 0, 768), (3, 4, 0, 769), (2, 0, 1, 770), (10, 0, 0, 771), (67, 0, 0, 772), (5, 0, 0, 773), (3, 4, 0, 774), (2, 0, 2, 775), (10, 0, 0, 776), (67, 0, 0, 777), (1, 26, 3, 778), (5, 2, 0, 779), (5, 0, 0, 780), (3, 4, 0, 781), (2, 0, 1, 782), (10, 0, 0, 783), (67, 0, 0, 784), (5, 0, 0, 785), (3, 4, 0, 786), (2, 0, 2, 787), (10, 0, 0, 788), (67, 0, 0, 789), (1, 152, 3, 790), (33, 939, 0, 791), (2, 0, 0, 792), (0, 2, 0, 793), (5, 1, 0, 794), (5, 0, 0, 795), (3, 4, 0, 796), (2, 0, 1, 797), (10, 0, 0, 798), (67, 0, 0, 799), (1, 27, 2, 800), (5, 2, 0, 801), (5, 0, 0, 802), (3, 4, 0, 803), (2, 0, 1, 804), (10, 0, 0, 805), (67, 0, 0, 806), (1, 153, 2, 807), (33, 939, 0, 808), (2, 0, 0, 809), (0, 2, 0, 810), (5, 1, 0, 811), (5, 0, 0, 812), (3, 4, 0, 813), (2, 0, 1, 814), (10, 0, 0, 815), (67, 0, 0, 816), (5, 0, 0, 817), (3, 4, 0, 818), (2, 0, 2, 819), (10, 0, 0, 820), (67, 0, 0, 821), (1, 28, 3, 822), (5, 2, 0, 823), (5, 0, 0, 824), (3, 4, 0, 825), (2, 0, 1, 826), (10, 0, 0, 827), (67, 0, 0, 828), (5, 0, 0, 829), (3, 4, 0, 830), (2, 0, 2, 831), (10, 0, 0, 832), (67, 0, 0, 833), (1, 157, 3, 834), (33, 939, 0, 835), (2, 0, 0, 836), (0, 2, 0, 837), (5, 1, 0, 838), (5, 0, 0, 839), (3, 4, 0, 840), (2, 0, 1, 841), (10, 0, 0, 842), (67, 0, 0, 843), (5, 0, 0, 844), (3, 4, 0, 845), (2, 0, 2, 846), (10, 0, 0, 847), (67, 0, 0, 848), (1, 29, 3, 849), (5, 2, 0, 850), (5, 0, 0, 851), (3, 4, 0, 852), (2, 0, 1, 853), (10, 0, 0, 854), (67, 0, 0, 855), (5, 0, 0, 856), (3, 4, 0, 857), (2, 0, 2, 858), (10, 0, 0, 859), (67, 0, 0, 860), (1, 158, 3, 861), (33, 939, 0, 862), (2, 0, 0, 863), (0, 2, 0, 864), (5, 1, 0, 865), (5, 0, 0, 866), (3, 4, 0, 867), (2, 0, 1, 868), (10, 0, 0, 869), (67, 0, 0, 870), (5, 0, 0, 871), (3, 4, 0, 872), (2, 0, 2, 873), (10, 0, 0, 874), (67, 0, 0, 875), (5, 0, 0, 876), (3, 4, 0, 877), (2, 0, 3, 878), (10, 0, 0, 879), (67, 0, 0, 880), (1, 30, 4, 881), (5, 2, 0, 882), (5, 0, 0, 883), (3, 4, 0, 884), (2, 0, 1, 885), (10, 0, 0, 886), (67, 0, 0, 887), (5, 0, 0, 888), (3, 4, 0, 889), (2, 0, 2, 890), (10, 0, 0, 891), (67, 0, 0, 892), (5, 0, 0, 893), (3, 4, 0, 894), (2, 0, 3, 895), (10, 0, 0, 896), (67, 0, 0, 897), (1, 161, 4, 898), (33, 939, 0, 899), (2, 0, 0, 900), (0, 2, 0, 901), (5, 1, 0, 902), (1, 31, 1, 903), (5, 2, 0, 904), (1, 98, 1, 905), (33, 939, 0, 906), (2, 0, 0, 907), (0, 2, 0, 908), (5, 1, 0, 909), (1, 32, 1, 910), (5, 2, 0, 911), (1, 99, 1, 912), (33, 939, 0, 913), (2, 0, 0, 914), (0, 2, 0, 915), (5, 1, 0, 916), (1, 33, 1, 917), (5, 2, 0, 918), (1, 100, 1, 919), (33, 939, 0, 920), (2, 0, 0, 921), (0, 2, 0, 922), (5, 1, 0, 923), (5, 0, 0, 924), (3, 4, 0, 925), (2, 0, 1, 926), (10, 0, 0, 927), (67, 0, 0, 928), (1, 34, 2, 929), (5, 2, 0, 930), (5, 0, 0, 931), (3, 4, 0, 932), (2, 0, 1, 933), (10, 0, 0, 934), (67, 0, 0, 935), (1, 165, 2, 936), (33, 939, 0, 937), (2, 0, 0, 938), (0, 2, 0, 939), (9, 4, 7, 940), (31, 13, 0, 941), (2, 0, 1, 942), (0, 2, 0, 943)]
def ab_codL : List (List ab_O) := [ab_c0, ab_c1, ab_c2, ab_c3, ab_c4, ab_c5, ab_c6, ab_c7, ab_c8, ab_c9, ab_c10, ab_c11, ab_c12, ab_c13, ab_c14, ab_c15, ab_c16, ab_c17, ab_c18, ab_c19, ab_c20, ab_c21, ab_c22, ab_c23, ab_c24, ab_c25, ab_c26, ab_c27, ab_c28, ab_c29, ab_c30, ab_c31, ab_c32, ab_c33, ab_c34, ab_c35, ab_c36, ab_c37, ab_c38, ab_c39, ab_c40, ab_c41, ab_c42, ab_c43, ab_c44, ab_c45, ab_c46, ab_c47, ab_c48, ab_c49, ab_c50, ab_c51, ab_c52, ab_c53, ab_c54, ab_c55, ab_c56, ab_c57, ab_c58, ab_c59, ab_c60, ab_c61, ab_c62, ab_c63, ab_c64, ab_c65, ab_c66, ab_c67, ab_c68, ab_c69, ab_c70, ab_c71, ab_c72, ab_c73, ab_c74, ab_c75, ab_c76, ab_c77, ab_c78, ab_c79, ab_c80, ab_c81, ab_c82, ab_c83, ab_c84, ab_c85, ab_c86, ab_c87, ab_c88, ab_c89, ab_c90, ab_c91, ab_c92, ab_c93, ab_c94, ab_c95, ab_c96, ab_c97, ab_c98, ab_c99, ab_c100, ab_c101, ab_c102, ab_c103, ab_c104, ab_c105, ab_c106, ab_c107, ab_c108, ab_c109, ab_c110, ab_c111, ab_c112, ab_c113, ab_c114, ab_c115, ab_c116, ab_c117, ab_c118, ab_c119, ab_c120, ab_c121, ab_c122, ab_c123, ab_c124, ab_c125, ab_c126, ab_c127, ab_c128, ab_c129, ab_c130, ab_c131, ab_c132, ab_c133, ab_c134, ab_c135, ab_c136, ab_c137, ab_c138, ab_c139, ab_c140, ab_c141, ab_c142, ab_c143, ab_c144, ab_c145, ab_c146, ab_c147, ab_c148, ab_c149, ab_c150, ab_c151, ab_c152, ab_c153, ab_c154, ab_c155, ab_c156, ab_c157, ab_c158, ab_c159, ab_c160, ab_c161, ab_c162, ab_c163, ab_c164, ab_c165, ab_c166, ab_c167, ab_c168, ab_c169, ab_c170, ab_c171, ab_c172, ab_c173, ab_c174, ab_c175, ab_c176, ab_c177, ab_c178, ab_c179, ab_c180, ab_c181, ab_c182, ab_c183, ab_c184, ab_c185, ab_c186, ab_c187, ab_c188, ab_c189, ab_c190, ab_c191, ab_c192, ab_c193, ab_c194, ab_c195, ab_c196, ab_c197, ab_c198, ab_c199, ab_c200, ab_c201, ab_c202, ab_c203, ab_c204, ab_c205, ab_c206, ab_c207, ab_c208, ab_c209, ab_c210, ab_c211, ab_c212, ab_c213, ab_c214, ab_c215, ab_c216, ab_c217, ab_c218, ab_c219, ab_c220, ab_c221, ab_c222, ab_c223, ab_c224, ab_c225, ab_c226, ab_c227, ab_c228, ab_c229, ab_c230, ab_c231, ab_c232, ab_c233, ab_c234, ab_c235, ab_c236, ab_c237, ab_c238, ab_c239, ab_c240, ab_c241, ab_c242, ab_c243, ab_c244, ab_c245, ab_c246]
def ab_depL : List Nat := [3, 1, 8, 0, 2, 6, 6, 5, 8, 2, 1, 4, 4, 2, 2, 0, 4, 2, 0, 4, 4, 3, 3, 4, 4, 5, 4, 4, 2, 2, 4, 6, 3, 6, 1, 0, 3, 0, 0, 0, 0, 1, 0, 1, 5, 4, 1, 1, 0, 0, 1, 1, 3, 0, 0, 3, 2, 5, 6, 0, 0, 0, 0, 0, 5, 4, 0, 0, 6, 7, 0, 0, 0, 7, 7, 1, 8, 0, 8, 8, 8, 8, 1, 8, 8, 9, 1, 10, 1, 11, 0, 0, 0, 1, 0, 0, 5, 1, 1, 1, 1, 0, 0, 1, 2, 0, 0, 3, 1, 4, 1, 0, 0, 0, 2, 3, 1, 1, 0, 0, 1, 1, 5, 6, 6, 1, 5, 4, 2, 0, 4, 3, 3, 3, 4, 4, 1, 3, 4, 5, 4, 4, 4, 3, 4, 3, 3, 4, 1, 0, 2, 3, 4, 2, 1, 1, 4, 5, 2, 0, 1, 5, 1, 4, 4, 5, 1, 0, 0, 1, 0, 1, 1, 0, 1, 0, 0, 0, 1, 2, 2, 7, 6, 4, 4, 4, 4, 4, 5, 5, 1, 0, 1, 3, 3, 3, 4, 3, 3, 1, 2, 0, 1, 0, 0, 0, 1, 0, 3, 2, 0, 1, 0, 0, 0, 0, 0, 0, 1, 2, 1, 0, 0, 0, 0, 1, 1, 0, 1, 1, 0, 0, 0, 0, 1, 1, 2, 0, 1, 3, 2, 1, 1, 0, 0, 9, 12]
def ab_rcvL : List Int := [0, 0, 0, 0, 0, 0, 0, 0, 0, 0, 0, 0, 0, 0, 0, 0, 0, 0, 0, 0, 0, 0, 0, 0, 0, 0, 0, 0, 0, 0, 0, 0, 0, 0, 0, 0, 0, 0, 0, -1, -1, 0, 0, 0, 0, 0, 0, 0, 0, 0, 0, 0, 0, -1, -1, 0, 0, 0, 9, 9, 9, 9, -1, -1, 9, 9, 9, 9, 9, 9, 9, 9, -1, 9, 9, 9, 9, -1, 9, 9, 9, 9, 9, 9, 9, 9, 9, 9, 9, 9, 9, 9, 9, 9, -1, 9, 9, 9, 9, 9, 9, 9, 9, 9, 9, 9, 9, 9, 9, 9, 9, 9, 9, 9, 9, 9, 9, 9, -1, 9, 9, 9, 9, 9, 9, 9, 9, 9, 9, -1, 9, 9, 9, 9, 9, 9, 9, 9, 9, 9, 9, 9, 9, 9, 9, 9, 9, 9, 9, -1, 9, 9, 9, 9, 9, 9, 9, 9, 9, 9, 9, 9, 9, 9, 9, 9, 1, 1, 1, 1, 1, 1, 1, 1, 1, 1, 1, 1, 1, 5, 7, 7, 7, 7, 7, 7, 7, 7, 7, 7, 7, 7, 7, 7, 7, 7, 7, 7, 7, 3, 3, 3, 3, 3, 3, 3, 2, 2, 2, 2, 2, 2, 2, 2, 2, 2, 2, 2, 4, 4, 4, 4, 4, 4, 4, 4, 6, 6, 6, 6, -1, 6, 6, -1, 6, 6, 6, 6, 8, 8, 8, 8, 8, -1, -1, -1, -1]
def ab_tsL : List (Int × Nat × List Nat) := [(0, 92, [12, 18, 33, 55, 61, 67, 73, 84]), (0, 55, [8, 14, 24, 29, 35, 41, 46]), (0, 60, [2, 6, 10, 14, 18, 26, 30, 34, 38, 46, 49, 52, 56]), (0, 43, [19, 25, 34]), (2, 111, [33, 63, 82, 96, 33]), (0, 90, [2, 26, 43, 60, 72, 84]), (0, 17, [2, 7, 12]), (0, 72, [18, 25, 32, 39, 46, 53, 60, 68]), (0, 56, [11, 19, 30, 34, 39, 44, 48]), (0, 58, [5, 8, 11, 14, 19, 22, 25, 33, 36, 42, 45, 48, 53]), (1, 23, [5, 8, 11, 14, 17, 20]), (2, 65, [2, 25, 40, 51, 2]), (0, 109, [26, 47, 58, 69, 78, 109, 87]), (0, 22, [2, 7, 12, 17]), (0, 43, [19, 25, 34]), (0, 939, [25, 82, 99, 116, 143, 210, 267, 294, 339, 384, 411, 448, 485, 502, 519, 536, 573, 590, 607, 624, 651, 668, 695, 712, 739, 766, 793, 810, 837, 864, 901, 908, 915, 922])]
def ab_swm : List Int := [1, 2, 3, 4, 5, 6, 0, 0, 0, 0, 0, 0, 0, 0, 0, 0, 0]
def ab_wt : List (Int × Int × Int) := [(1178064340, -1, -1), (402644, -1, -1), (21016985, -1, -1), (636976, -1, -1), (627876, -1, -1), (736548, -1, -1), (508078, 0, -1), (17076, 1, -1), (656741, 2, -1), (408683, 3, -1), (215205, 4, -1), (3554917, 5, -1), (442053, 6, -1), (19636, -1, 0), (13996, -1, 1), (1156, -1, 2), (114201, -1, 3)]
def ab_str : List Int := [111, 112, 101, 110, 32, 112, 117, 116, 32, 116, 97, 107, 101, 32, 108, 111, 99, 107, 32, 102, 114, 101, 101, 32, 99, 108, 111, 115, 101, 32, 109, 111, 118, 101, 32, 118, 111, 105, 100, 32, 115, 101, 116, 32, 109, 117, 108, 32, 97, 100, 100, 32, 99, 111, 112, 121, 32, 97, 99, 99, 111, 117, 110, 116, 32, 108, 105, 102, 116, 32, 116, 97, 108, 108, 121, 32, 115, 110, 97, 112, 32, 115, 101, 101, 100, 32]
-- the classes: name, fields (name, descriptor, final, tag: 0 int, 1 long, 2 reference, 3 boolean)
def ab_clsL : List (String × List (String × String × Bool × Nat)) := [("EventLedger", [("tape", "[B", true, 2), ("tapeSize", "I", false, 0), ("parser", "LEventLedger$Parser;", true, 2), ("terms", "LEventLedger$Terms;", false, 2), ("spareTerms", "LEventLedger$Terms;", false, 2), ("log", "LEventLedger$Log;", false, 2), ("spareLog", "LEventLedger$Log;", false, 2), ("now", "LEventLedger$State;", true, 2), ("guess", "LEventLedger$State;", true, 2), ("shots", "LEventLedger$Shots;", true, 2), ("spareShots", "LEventLedger$Shots;", true, 2), ("tallies", "LEventLedger$Tallies;", true, 2), ("row", "[I", true, 2), ("marks", "[LEventLedger$Mark;", true, 2), ("undoable", "I", false, 0), ("imageLog", "LEventLedger$Log;", true, 2), ("image", "LEventLedger$Mark;", true, 2), ("imaged", "Z", false, 3)]),
  ("EventLedger$Log", [("kind", "[I", true, 2), ("account", "[I", true, 2), ("other", "[I", true, 2), ("time", "[I", true, 2), ("shape", "[I", true, 2), ("told", "[I", true, 2), ("lifted", "[I", true, 2), ("broken", "[I", true, 2), ("voidedBy", "[I", true, 2), ("weightAhead", "[I", true, 2), ("size", "I", false, 0)]),
  ("EventLedger$State", [("balance", "[I", true, 2), ("locked", "[I", true, 2), ("limit", "[I", true, 2), ("open", "[I", true, 2), ("cause", "[I", true, 2), ("horizon", "I", false, 0), ("skipped", "I", false, 0)]),
  ("EventLedger$Shots", [("place", "[I", true, 2), ("size", "I", false, 0), ("every", "I", false, 0), ("most", "I", false, 0)]),
  ("EventLedger$Tallies", [("place", "[I", true, 2), ("counted", "[I", true, 2)]),
  ("EventLedger$Mark", [("events", "I", false, 0), ("every", "I", false, 0), ("most", "I", false, 0), ("tallies", "LEventLedger$Tallies;", true, 2)]),
  ("EventLedger$Terms", [("accountName", "[I", true, 2), ("accounts", "I", false, 0), ("tallyName", "[I", true, 2), ("tallyKind", "[I", true, 2), ("tallyField", "[I", true, 2), ("tallies", "I", false, 0), ("steps", "[I", true, 2), ("stepOp", "[I", true, 2), ("stepField", "[I", true, 2), ("stepNumber", "[I", true, 2), ("every", "I", false, 0), ("most", "I", false, 0), ("seed", "I", false, 0)]),
  ("EventLedger$Parser", [("tokens", "LEventLedger$Tokens;", true, 2), ("fields", "[I", true, 2), ("terms", "LEventLedger$Terms;", false, 2), ("log", "LEventLedger$Log;", false, 2), ("snapTold", "Z", false, 3), ("seedTold", "Z", false, 3), ("fault", "I", false, 0), ("place", "I", false, 0)]),
  ("EventLedger$Tokens", [("bytes", "[B", true, 2), ("length", "I", false, 0), ("next", "I", false, 0), ("sort", "I", false, 0), ("start", "I", false, 0), ("word", "LEventLedger$Word;", false, 2), ("letters", "I", false, 0), ("number", "I", false, 0)]),
  ("EventLedgerModel", [("thrown", "I", false, 0), ("tape", "[I", true, 2), ("taped", "I", false, 0), ("number", "[I", true, 2), ("accountName", "[I", true, 2), ("tallyName", "[I", true, 2), ("tallyKind", "[I", true, 2), ("tallyField", "[I", true, 2), ("steps", "[I", true, 2), ("stepOp", "[I", true, 2), ("stepField", "[I", true, 2), ("stepNumber", "[I", true, 2), ("read", "[I", true, 2), ("readVoid", "[I", true, 2), ("isSnap", "Z", false, 3), ("isSeed", "Z", false, 3), ("lines", "I", false, 0), ("size", "I", false, 0), ("at", "I", false, 0), ("place", "I", false, 0), ("sort", "I", false, 0), ("value", "I", false, 0), ("fault", "I", false, 0), ("faultPlace", "I", false, 0), ("lastFault", "I", false, 0), ("lastPlace", "I", false, 0), ("s", "[I", true, 2), ("aside", "[I", true, 2), ("image", "[I", true, 2), ("pasts", "[I", true, 2), ("undoable", "I", false, 0), ("hasImage", "Z", false, 3), ("taken", "I", false, 0), ("lifted", "[I", true, 2), ("plainKind", "I", false, 0), ("plainShape", "I", false, 0), ("balance", "[I", true, 2), ("locked", "[I", true, 2), ("limit", "[I", true, 2), ("isOpen", "[Z", true, 2), ("cause", "[I", true, 2), ("firstBelow", "I", false, 0), ("peak", "I", false, 0), ("peakAt", "I", false, 0), ("was", "[I", true, 2), ("drawn", "I", false, 0)])]
def ab_cod (k : Nat) : List ab_O := (ab_nth ab_codL k).getD []
def ab_dep (k : Nat) : Nat := (ab_nth ab_depL k).getD 0
def ab_rcv (k : Nat) : Int := (ab_nth ab_rcvL k).getD (-1)
def ab_kd (a : Int) : Int × Int := match a with
  | .ofNat n => (ab_nth ab_kdl n).getD (999, 0)
  | .negSucc _ => (999, 0)
def ab_cls (c : Nat) : String × List (String × String × Bool × Nat) := (ab_nth ab_clsL c).getD ("", [])
def ab_fld (c k : Nat) : String × String × Bool × Nat := (ab_nth (ab_cls c).2 k).getD ("", "", false, 0)
def ab_nF (c : Nat) : Nat := (ab_cls c).2.length
/-- an array: its type (100 int, 101 byte, 102 boolean, 103 long, 104 Mark), its length, made already -/
def ab_AR (K a t n : Int) : Prop := ab_kd a = (t, n) ∧ 0 ≤ a ∧ a < K
def ab_OB (K a c : Int) : Prop := (ab_kd a).1 = c ∧ 0 ≤ a ∧ a < K

-- where each place stands in the bytes: (the place in the bytes, number in the pool, place among the words, 1: of a nest)
def ab_x0 : List (Nat × Nat × Nat × Nat) := [(0, 0, 0, 0), (1, 3, 30, 0), (4, 0, 0, 0), (5, 0, 0, 0), (8, 0, 0, 0), (10, 11, 1078, 0), (13, 0, 0, 0), (14, 15, 33, 0), (17, 0, 0, 0), (18, 0, 0, 0), (19, 11, 1078, 0), (22, 17, 35, 1), (25, 20, 1080, 0), (28, 0, 0, 0), (29, 24, 106, 0), (32, 0, 0, 0), (33, 26, 108, 1), (36, 27, 1081, 0), (39, 0, 0, 0), (40, 24, 106, 0), (43, 0, 0, 0), (44, 26, 108, 1), (47, 31, 1082, 0), (50, 0, 0, 0), (51, 34, 164, 0), (54, 0, 0, 0), (55, 36, 166, 1), (58, 37, 1083, 0), (61, 0, 0, 0), (62, 34, 164, 0), (65, 0, 0, 0), (66, 36, 166, 1), (69, 41, 1084, 0), (72, 0, 0, 0), (73, 44, 228, 0), (76, 0, 0, 0), (77, 46, 230, 1), (80, 47, 1085, 0), (83, 0, 0, 0), (84, 44, 228, 0), (87, 0, 0, 0), (88, 46, 230, 1), (91, 51, 1086, 0), (94, 0, 0, 0), (95, 54, 1018, 0), (98, 0, 0, 0), (99, 56, 1020, 1), (102, 57, 1087, 0), (105, 0, 0, 0), (106, 54, 1018, 0), (109, 0, 0, 0), (110, 56, 1020, 1), (113, 61, 1088, 0), (116, 0, 0, 0), (117, 64, 1041, 0), (120, 0, 0, 0), (121, 66, 1043, 1), (124, 67, 1089, 0), (127, 0, 0, 0), (128, 0, 0, 0), (129, 0, 0, 0), (131, 71, 1090, 0), (134, 0, 0, 0), (135, 0, 0, 0), (137, 75, 1055, 0), (140, 77, 1091, 0), (143, 0, 0, 0), (144, 34, 164, 0), (147, 0, 0, 0), (148, 36, 166, 1), (151, 81, 1093, 0), (154, 0, 0, 0), (155, 75, 1055, 0), (158, 0, 0, 0), (159, 84, 1058, 1), (162, 85, 1094, 0), (165, 0, 0, 0), (166, 0, 0, 0), (167, 0, 0, 0), (168, 0, 0, 0), (170, 0, 0, 0), (173, 0, 0, 0), (174, 77, 1091, 0), (177, 0, 0, 0), (178, 75, 1055, 0), (181, 0, 0, 0), (182, 84, 1058, 1), (185, 0, 0, 0), (186, 0, 0, 0), (189, 0, 0, 0), (192, 0, 0, 0), (193, 57, 1087, 0), (196, 0, 0, 0), (197, 27, 1081, 0), (200, 89, 129, 1), (203, 93, 1028, 1), (206, 0, 0, 0), (207, 57, 1087, 0), (210, 0, 0, 0), (211, 27, 1081, 0), (214, 94, 132, 1), (217, 97, 1030, 1), (220, 0, 0, 0)]
def ab_x1 : List (Nat × Nat × Nat × Nat) := [(0, 0, 0, 0), (1, 98, 1079, 0), (4, 0, 0, 0), (6, 0, 0, 0), (7, 0, 0, 0), (10, 0, 0, 0), (13, 0, 0, 0), (14, 0, 0, 0), (15, 0, 0, 0), (16, 0, 0, 0), (17, 101, 1137, 0), (20, 0, 0, 0), (21, 0, 0, 0), (22, 101, 1137, 0), (25, 0, 0, 0), (26, 0, 0, 0), (27, 101, 1137, 0), (30, 0, 0, 0), (31, 0, 0, 0), (33, 101, 1137, 0), (36, 0, 0, 0), (37, 0, 0, 0), (39, 101, 1137, 0), (42, 0, 0, 0), (43, 98, 1079, 0), (46, 0, 0, 0)]
def ab_x2 : List (Nat × Nat × Nat × Nat) := [(0, 0, 0, 0), (1, 0, 0, 0), (4, 0, 0, 0), (5, 0, 0, 0), (6, 98, 1079, 0), (9, 0, 0, 0), (12, 0, 0, 0), (14, 0, 0, 0), (15, 0, 0, 0), (16, 0, 0, 0), (17, 98, 1079, 0), (20, 0, 0, 0), (21, 20, 1080, 0), (24, 0, 0, 0), (25, 0, 0, 0), (26, 31, 1082, 0), (29, 0, 0, 0), (30, 41, 1084, 0), (33, 105, 1145, 1), (36, 0, 0, 0), (37, 0, 0, 0), (38, 0, 0, 0), (39, 0, 0, 0), (42, 0, 0, 0), (43, 0, 0, 0), (44, 0, 0, 0), (45, 109, 2080, 0), (48, 0, 0, 0), (49, 57, 1087, 0), (52, 0, 0, 0), (53, 27, 1081, 0), (56, 89, 129, 1), (59, 93, 1028, 1), (62, 0, 0, 0), (63, 57, 1087, 0), (66, 0, 0, 0), (67, 27, 1081, 0), (70, 94, 132, 1), (73, 97, 1030, 1), (76, 0, 0, 0), (77, 67, 1089, 0), (80, 112, 2097, 1), (83, 0, 0, 0), (84, 0, 0, 0), (85, 115, 1092, 0), (88, 0, 0, 0), (89, 0, 0, 0), (90, 118, 1095, 0), (93, 0, 0, 0), (94, 122, 2109, 0), (97, 0, 0, 0), (98, 0, 0, 0)]
def ab_x3 : List (Nat × Nat × Nat × Nat) := [(0, 0, 0, 0), (1, 0, 0, 0), (4, 0, 0, 0), (5, 20, 1080, 0), (8, 125, 86, 1), (11, 0, 0, 0), (12, 0, 0, 0), (13, 0, 0, 0), (14, 0, 0, 0), (17, 0, 0, 0), (18, 20, 1080, 0), (21, 128, 88, 1), (24, 0, 0, 0), (27, 0, 0, 0), (28, 0, 0, 0)]
def ab_x4 : List (Nat × Nat × Nat × Nat) := [(0, 0, 0, 0), (1, 0, 0, 0), (4, 0, 0, 0), (5, 27, 1081, 0), (8, 0, 0, 0), (9, 131, 2174, 1), (12, 0, 0, 0), (13, 0, 0, 0), (14, 0, 0, 0), (15, 0, 0, 0), (18, 0, 0, 0), (19, 27, 1081, 0), (22, 0, 0, 0), (23, 135, 2175, 1), (26, 0, 0, 0), (29, 0, 0, 0), (30, 0, 0, 0)]
def ab_x5 : List (Nat × Nat × Nat × Nat) := [(0, 0, 0, 0), (1, 0, 0, 0), (2, 0, 0, 0), (3, 0, 0, 0), (4, 138, 2180, 0), (7, 0, 0, 0), (10, 0, 0, 0), (12, 142, 2188, 0), (15, 0, 0, 0), (18, 0, 0, 0), (20, 146, 2191, 0), (23, 0, 0, 0), (26, 0, 0, 0), (28, 146, 2191, 0), (31, 0, 0, 0), (34, 0, 0, 0), (35, 0, 0, 0), (36, 0, 0, 0), (37, 0, 0, 0), (39, 0, 0, 0), (41, 149, 2195, 0), (44, 0, 0, 0), (45, 0, 0, 0), (46, 0, 0, 0), (47, 0, 0, 0), (48, 0, 0, 0), (50, 0, 0, 0), (51, 153, 2199, 0), (54, 0, 0, 0)]
def ab_x6 : List (Nat × Nat × Nat × Nat) := [(0, 0, 0, 0), (1, 0, 0, 0), (2, 0, 0, 0), (3, 0, 0, 0), (4, 138, 2180, 0), (7, 0, 0, 0), (10, 0, 0, 0), (12, 142, 2188, 0), (15, 0, 0, 0), (18, 0, 0, 0), (20, 146, 2191, 0), (23, 0, 0, 0), (26, 0, 0, 0), (27, 0, 0, 0), (28, 0, 0, 0), (29, 0, 0, 0), (31, 0, 0, 0), (32, 149, 2195, 0), (35, 0, 0, 0), (36, 0, 0, 0), (37, 0, 0, 0), (38, 0, 0, 0), (39, 0, 0, 0), (41, 0, 0, 0), (42, 153, 2199, 0), (45, 0, 0, 0)]
def ab_x7 : List (Nat × Nat × Nat × Nat) := [(0, 0, 0, 0), (1, 37, 1083, 0), (4, 0, 0, 0), (5, 157, 2230, 1), (8, 0, 0, 0), (11, 0, 0, 0), (12, 37, 1083, 0), (15, 160, 198, 1), (18, 0, 0, 0), (19, 0, 0, 0), (20, 0, 0, 0), (21, 0, 0, 0), (24, 0, 0, 0), (25, 142, 2188, 0), (28, 0, 0, 0), (31, 0, 0, 0), (32, 0, 0, 0), (33, 0, 0, 0), (34, 0, 0, 0), (35, 163, 2203, 0), (38, 0, 0, 0), (39, 0, 0, 0), (40, 0, 0, 0), (43, 0, 0, 0), (44, 0, 0, 0), (45, 0, 0, 0), (46, 166, 2208, 0), (49, 0, 0, 0), (50, 37, 1083, 0), (53, 0, 0, 0), (54, 0, 0, 0), (55, 169, 2231, 1), (58, 0, 0, 0), (59, 122, 2109, 0), (62, 0, 0, 0), (63, 37, 1083, 0), (66, 172, 203, 1), (69, 0, 0, 0), (70, 0, 0, 0), (71, 0, 0, 0)]
def ab_x8 : List (Nat × Nat × Nat × Nat) := [(0, 0, 0, 0), (1, 37, 1083, 0), (4, 0, 0, 0), (5, 175, 3056, 1), (8, 0, 0, 0), (11, 178, 0, 0), (14, 0, 0, 0), (15, 180, 0, 0), (17, 182, 4009, 0), (20, 0, 0, 0), (21, 0, 0, 0), (22, 0, 0, 0), (68, 0, 0, 0), (69, 37, 1083, 0), (72, 185, 173, 1), (75, 0, 0, 0), (76, 0, 0, 0), (77, 0, 0, 0), (78, 0, 0, 0), (79, 37, 1083, 0), (82, 185, 173, 1), (85, 0, 0, 0), (86, 0, 0, 0), (87, 0, 0, 0), (89, 0, 0, 0), (92, 0, 0, 0), (94, 0, 0, 0), (97, 0, 0, 0), (98, 37, 1083, 0), (101, 188, 177, 1), (104, 0, 0, 0), (105, 0, 0, 0), (106, 0, 0, 0), (107, 0, 0, 0), (108, 37, 1083, 0), (111, 185, 173, 1), (114, 0, 0, 0), (115, 0, 0, 0), (116, 0, 0, 0), (118, 0, 0, 0), (121, 0, 0, 0), (122, 37, 1083, 0), (125, 185, 173, 1), (128, 0, 0, 0), (129, 0, 0, 0), (130, 0, 0, 0), (132, 0, 0, 0), (135, 0, 0, 0), (136, 37, 1083, 0), (139, 191, 181, 1), (142, 0, 0, 0), (143, 0, 0, 0), (144, 0, 0, 0), (147, 0, 0, 0), (149, 0, 0, 0), (150, 0, 0, 0), (151, 37, 1083, 0), (154, 194, 183, 1), (157, 0, 0, 0), (158, 0, 0, 0), (159, 0, 0, 0), (160, 0, 0, 0), (161, 37, 1083, 0), (164, 197, 185, 1), (167, 0, 0, 0), (168, 0, 0, 0), (169, 0, 0, 0), (170, 0, 0, 0), (171, 47, 1085, 0), (174, 200, 1000, 1), (177, 0, 0, 0), (178, 0, 0, 0), (179, 0, 0, 0), (180, 0, 0, 0), (181, 37, 1083, 0), (184, 160, 198, 1), (187, 0, 0, 0), (188, 0, 0, 0), (189, 0, 0, 0), (190, 0, 0, 0), (193, 0, 0, 0), (194, 0, 0, 0), (197, 0, 0, 0), (198, 0, 0, 0), (199, 0, 0, 0), (200, 37, 1083, 0), (203, 0, 0, 0), (204, 0, 0, 0), (205, 0, 0, 0), (206, 0, 0, 0), (207, 203, 3027, 1), (210, 0, 0, 0), (211, 207, 0, 0), (214, 0, 0, 0), (215, 209, 0, 0), (217, 211, 4044, 0), (220, 0, 0, 0)]
def ab_x9 : List (Nat × Nat × Nat × Nat) := [(0, 0, 0, 0), (1, 37, 1083, 0), (4, 0, 0, 0), (5, 157, 2230, 1), (8, 0, 0, 0), (11, 0, 0, 0), (12, 0, 0, 0), (13, 0, 0, 0), (16, 0, 0, 0), (17, 0, 0, 0), (18, 0, 0, 0), (21, 0, 0, 0), (22, 0, 0, 0), (23, 0, 0, 0), (24, 0, 0, 0), (25, 0, 0, 0), (26, 0, 0, 0), (27, 0, 0, 0), (28, 0, 0, 0), (29, 0, 0, 0), (30, 0, 0, 0), (32, 0, 0, 0), (33, 0, 0, 0), (36, 0, 0, 0), (37, 37, 1083, 0), (40, 212, 191, 1), (43, 0, 0, 0), (45, 0, 0, 0), (46, 0, 0, 0), (49, 0, 0, 0), (50, 37, 1083, 0), (53, 215, 188, 1), (56, 0, 0, 0), (58, 0, 0, 0), (59, 0, 0, 0)]
def ab_x10 : List (Nat × Nat × Nat × Nat) := [(0, 0, 0, 0), (1, 0, 0, 0), (2, 218, 2184, 0), (5, 0, 0, 0), (8, 0, 0, 0), (9, 47, 1085, 0), (12, 0, 0, 0), (13, 0, 0, 0), (14, 221, 3000, 1), (17, 0, 0, 0), (20, 224, 3005, 9), (22, 0, 0, 0)]
def ab_x11 : List (Nat × Nat × Nat × Nat) := [(0, 0, 0, 0), (1, 142, 2188, 0), (4, 0, 0, 0), (7, 0, 0, 0), (8, 0, 0, 0), (9, 218, 2184, 0), (12, 0, 0, 0), (15, 224, 3005, 9), (17, 0, 0, 0), (18, 0, 0, 0), (19, 51, 1086, 0), (22, 0, 0, 0), (23, 37, 1083, 0), (26, 0, 0, 0), (27, 37, 1083, 0), (30, 0, 0, 0), (31, 225, 3010, 1), (34, 0, 0, 0), (35, 37, 1083, 0), (38, 172, 203, 1), (41, 0, 0, 0), (42, 228, 2138, 1), (45, 0, 0, 0), (46, 51, 1086, 0), (49, 0, 0, 0), (50, 0, 0, 0), (51, 221, 3000, 1), (54, 0, 0, 0)]
def ab_x12 : List (Nat × Nat × Nat × Nat) := [(0, 0, 0, 0), (1, 142, 2188, 0), (4, 0, 0, 0), (7, 0, 0, 0), (8, 0, 0, 0), (9, 218, 2184, 0), (12, 0, 0, 0), (15, 224, 3005, 9), (17, 0, 0, 0), (18, 0, 0, 0), (19, 37, 1083, 0), (22, 0, 0, 0), (23, 225, 3010, 1), (26, 0, 0, 0), (28, 0, 0, 0), (29, 51, 1086, 0), (32, 0, 0, 0), (33, 37, 1083, 0), (36, 0, 0, 0), (38, 0, 0, 0), (40, 0, 0, 0), (41, 228, 2138, 1), (44, 0, 0, 0), (45, 51, 1086, 0), (48, 0, 0, 0), (49, 0, 0, 0), (50, 221, 3000, 1), (53, 0, 0, 0)]
def ab_x13 : List (Nat × Nat × Nat × Nat) := [(0, 0, 0, 0), (1, 0, 0, 0), (4, 0, 0, 0), (5, 0, 0, 0), (6, 37, 1083, 0), (9, 172, 203, 1), (12, 0, 0, 0), (15, 0, 0, 0), (16, 0, 0, 0), (17, 232, 3022, 0), (20, 0, 0, 0), (23, 0, 0, 0), (24, 0, 0, 0)]
def ab_x14 : List (Nat × Nat × Nat × Nat) := [(0, 0, 0, 0), (1, 142, 2188, 0), (4, 0, 0, 0), (7, 0, 0, 0), (8, 0, 0, 0), (9, 37, 1083, 0), (12, 0, 0, 0), (13, 225, 3010, 1), (16, 232, 3022, 0), (19, 0, 0, 0), (22, 0, 0, 0), (23, 0, 0, 0)]
def ab_x15 : List (Nat × Nat × Nat × Nat) := [(0, 0, 0, 0), (1, 0, 0, 0), (4, 0, 0, 0), (5, 0, 0, 0), (6, 0, 0, 0), (7, 0, 0, 0), (8, 57, 1087, 0), (11, 235, 1027, 1), (14, 0, 0, 0), (17, 0, 0, 0), (18, 57, 1087, 0), (21, 236, 1025, 1), (24, 0, 0, 0), (25, 0, 0, 0), (26, 0, 0, 0), (29, 0, 0, 0), (31, 0, 0, 0)]
def ab_x16 : List (Nat × Nat × Nat × Nat) := [(0, 0, 0, 0), (1, 0, 0, 0), (4, 0, 0, 0), (5, 0, 0, 0), (6, 57, 1087, 0), (9, 235, 1027, 1), (12, 0, 0, 0), (15, 0, 0, 0), (16, 0, 0, 0), (17, 218, 2184, 0), (20, 0, 0, 0), (23, 224, 3005, 9), (25, 0, 0, 0), (26, 0, 0, 0), (27, 51, 1086, 0), (30, 0, 0, 0), (31, 37, 1083, 0), (34, 0, 0, 0), (35, 57, 1087, 0), (38, 236, 1025, 1), (41, 0, 0, 0), (42, 0, 0, 0), (43, 0, 0, 0), (44, 37, 1083, 0), (47, 172, 203, 1), (50, 0, 0, 0), (51, 228, 2138, 1), (54, 0, 0, 0), (55, 51, 1086, 0), (58, 0, 0, 0), (59, 0, 0, 0), (60, 221, 3000, 1), (63, 0, 0, 0)]
def ab_x17 : List (Nat × Nat × Nat × Nat) := [(0, 0, 0, 0), (1, 0, 0, 0), (4, 0, 0, 0), (5, 0, 0, 0), (6, 0, 0, 0), (9, 0, 0, 0), (10, 0, 0, 0), (11, 0, 0, 0), (12, 0, 0, 0), (13, 0, 0, 0), (14, 0, 0, 0), (15, 0, 0, 0), (16, 0, 0, 0), (18, 0, 0, 0), (19, 0, 0, 0), (21, 0, 0, 0), (23, 0, 0, 0), (24, 37, 1083, 0), (27, 172, 203, 1), (30, 0, 0, 0), (33, 0, 0, 0), (34, 0, 0, 0), (36, 232, 3022, 0), (39, 0, 0, 0), (41, 0, 0, 0), (42, 0, 0, 0), (44, 0, 0, 0), (45, 0, 0, 0), (46, 0, 0, 0), (48, 0, 0, 0), (49, 57, 1087, 0), (52, 0, 0, 0), (54, 0, 0, 0), (55, 37, 1083, 0), (58, 172, 203, 1), (61, 0, 0, 0), (62, 0, 0, 0), (63, 238, 3044, 1), (66, 0, 0, 0), (68, 0, 0, 0), (69, 0, 0, 0), (70, 0, 0, 0), (72, 0, 0, 0), (74, 0, 0, 0), (76, 0, 0, 0), (79, 0, 0, 0), (81, 0, 0, 0), (83, 0, 0, 0), (85, 0, 0, 0), (86, 0, 0, 0), (89, 0, 0, 0), (92, 0, 0, 0), (93, 0, 0, 0), (96, 0, 0, 0), (97, 0, 0, 0), (100, 0, 0, 0), (101, 0, 0, 0), (103, 0, 0, 0), (104, 0, 0, 0)]
def ab_x18 : List (Nat × Nat × Nat × Nat) := [(0, 0, 0, 0), (1, 0, 0, 0), (4, 0, 0, 0), (5, 0, 0, 0), (6, 0, 0, 0), (7, 0, 0, 0), (8, 0, 0, 0), (9, 0, 0, 0), (10, 0, 0, 0), (11, 0, 0, 0), (12, 37, 1083, 0), (15, 172, 203, 1), (18, 0, 0, 0), (21, 0, 0, 0), (22, 47, 1085, 0), (25, 200, 1000, 1), (28, 0, 0, 0), (29, 0, 0, 0), (30, 0, 0, 0), (33, 0, 0, 0), (34, 0, 0, 0), (35, 0, 0, 0), (38, 0, 0, 0), (39, 0, 0, 0), (40, 0, 0, 0), (43, 0, 0, 0), (46, 0, 0, 0), (49, 0, 0, 0), (51, 0, 0, 0)]
def ab_x19 : List (Nat × Nat × Nat × Nat) := [(0, 0, 0, 0), (1, 37, 1083, 0), (4, 0, 0, 0), (5, 175, 3056, 1), (8, 0, 0, 0), (11, 0, 0, 0), (12, 47, 1085, 0), (15, 200, 1000, 1), (18, 0, 0, 0), (19, 0, 0, 0), (20, 0, 0, 0), (23, 0, 0, 0), (24, 0, 0, 0), (25, 0, 0, 0), (26, 0, 0, 0), (27, 0, 0, 0), (28, 0, 0, 0), (29, 0, 0, 0), (32, 0, 0, 0), (33, 37, 1083, 0), (36, 0, 0, 0), (37, 157, 2230, 1), (40, 0, 0, 0), (43, 0, 0, 0), (44, 37, 1083, 0), (47, 160, 198, 1), (50, 0, 0, 0), (51, 0, 0, 0), (52, 0, 0, 0), (53, 0, 0, 0), (56, 0, 0, 0), (57, 51, 1086, 0), (60, 0, 0, 0), (61, 37, 1083, 0), (64, 0, 0, 0), (65, 0, 0, 0), (66, 0, 0, 0), (67, 0, 0, 0), (68, 37, 1083, 0), (71, 172, 203, 1), (74, 0, 0, 0), (75, 228, 2138, 1), (78, 0, 0, 0), (79, 51, 1086, 0), (82, 200, 1000, 1), (85, 0, 0, 0), (86, 0, 0, 0), (87, 0, 0, 0), (90, 0, 0, 0), (91, 0, 0, 0), (92, 0, 0, 0), (95, 0, 0, 0), (98, 0, 0, 0), (100, 0, 0, 0)]
def ab_x20 : List (Nat × Nat × Nat × Nat) := [(0, 0, 0, 0), (1, 37, 1083, 0), (4, 0, 0, 0), (5, 157, 2230, 1), (8, 0, 0, 0), (11, 0, 0, 0), (12, 0, 0, 0), (13, 218, 2184, 0), (16, 0, 0, 0), (19, 224, 3005, 9), (21, 0, 0, 0), (22, 0, 0, 0), (23, 51, 1086, 0), (26, 0, 0, 0), (27, 37, 1083, 0), (30, 0, 0, 0), (31, 37, 1083, 0), (34, 172, 203, 1), (37, 0, 0, 0), (38, 37, 1083, 0), (41, 172, 203, 1), (44, 0, 0, 0), (45, 228, 2138, 1), (48, 0, 0, 0), (49, 51, 1086, 0), (52, 241, 235, 1), (55, 0, 0, 0), (56, 0, 0, 0), (57, 0, 0, 0)]
def ab_x21 : List (Nat × Nat × Nat × Nat) := [(0, 0, 0, 0), (1, 0, 0, 0), (2, 218, 2184, 0), (5, 0, 0, 0), (8, 0, 0, 0), (9, 0, 0, 0), (10, 0, 0, 0), (11, 51, 1086, 0), (14, 0, 0, 0), (15, 37, 1083, 0), (18, 172, 203, 1), (21, 0, 0, 0), (22, 244, 3065, 1), (25, 0, 0, 0), (26, 0, 0, 0), (27, 0, 0, 0), (28, 0, 0, 0), (29, 37, 1083, 0), (32, 172, 203, 1), (35, 0, 0, 0), (38, 0, 0, 0), (39, 51, 1086, 0), (42, 0, 0, 0), (43, 37, 1083, 0), (46, 0, 0, 0), (47, 247, 3066, 1), (50, 0, 0, 0), (51, 51, 1086, 0), (54, 241, 235, 1), (57, 0, 0, 0), (58, 0, 0, 0), (59, 0, 0, 0), (62, 0, 0, 0), (63, 0, 0, 0), (64, 0, 0, 0), (67, 0, 0, 0), (70, 0, 0, 0), (72, 0, 0, 0)]
def ab_x22 : List (Nat × Nat × Nat × Nat) := [(0, 0, 0, 0), (1, 0, 0, 0), (2, 218, 2184, 0), (5, 0, 0, 0), (8, 0, 0, 0), (9, 0, 0, 0), (12, 0, 0, 0), (13, 0, 0, 0), (14, 0, 0, 0), (17, 224, 3005, 9), (19, 0, 0, 0), (20, 0, 0, 0), (21, 0, 0, 0), (22, 0, 0, 0), (24, 0, 0, 0), (26, 0, 0, 0), (27, 51, 1086, 0), (30, 0, 0, 0), (31, 37, 1083, 0), (34, 172, 203, 1), (37, 0, 0, 0), (38, 244, 3065, 1), (41, 0, 0, 0), (42, 0, 0, 0), (44, 0, 0, 0), (46, 0, 0, 0), (47, 37, 1083, 0), (50, 172, 203, 1), (53, 0, 0, 0), (56, 0, 0, 0), (57, 51, 1086, 0), (60, 0, 0, 0), (61, 37, 1083, 0), (64, 0, 0, 0), (66, 247, 3066, 1), (69, 0, 0, 0), (70, 51, 1086, 0), (73, 241, 235, 1), (76, 0, 0, 0), (77, 0, 0, 0), (78, 0, 0, 0), (79, 0, 0, 0), (82, 0, 0, 0), (83, 51, 1086, 0), (86, 241, 235, 1), (89, 0, 0, 0), (90, 0, 0, 0), (91, 0, 0, 0), (92, 0, 0, 0), (94, 0, 0, 0), (96, 0, 0, 0), (99, 0, 0, 0), (102, 0, 0, 0), (103, 0, 0, 0), (106, 0, 0, 0), (107, 0, 0, 0), (110, 0, 0, 0), (112, 0, 0, 0)]
def ab_x23 : List (Nat × Nat × Nat × Nat) := [(0, 0, 0, 0), (1, 37, 1083, 0), (4, 0, 0, 0), (5, 157, 2230, 1), (8, 0, 0, 0), (11, 0, 0, 0), (12, 0, 0, 0), (13, 0, 0, 0), (14, 51, 1086, 0), (17, 0, 0, 0), (18, 37, 1083, 0), (21, 0, 0, 0), (22, 37, 1083, 0), (25, 172, 203, 1), (28, 0, 0, 0), (29, 37, 1083, 0), (32, 172, 203, 1), (35, 0, 0, 0), (36, 228, 2138, 1), (39, 0, 0, 0), (40, 0, 0, 0), (41, 0, 0, 0), (42, 0, 0, 0), (43, 0, 0, 0), (44, 0, 0, 0), (45, 37, 1083, 0), (48, 172, 203, 1), (51, 0, 0, 0), (54, 0, 0, 0), (55, 0, 0, 0), (56, 0, 0, 0), (59, 0, 0, 0), (60, 51, 1086, 0), (63, 200, 1000, 1), (66, 0, 0, 0), (67, 0, 0, 0), (68, 0, 0, 0), (69, 47, 1085, 0), (72, 200, 1000, 1), (75, 0, 0, 0), (76, 0, 0, 0), (77, 0, 0, 0), (80, 0, 0, 0), (83, 0, 0, 0), (86, 0, 0, 0), (89, 0, 0, 0), (90, 0, 0, 0)]
def ab_x24 : List (Nat × Nat × Nat × Nat) := [(0, 0, 0, 0), (1, 0, 0, 0), (4, 0, 0, 0), (5, 0, 0, 0), (7, 0, 0, 0), (10, 0, 0, 0), (11, 0, 0, 0), (12, 0, 0, 0), (15, 0, 0, 0), (16, 0, 0, 0), (17, 0, 0, 0), (20, 0, 0, 0), (21, 0, 0, 0), (22, 0, 0, 0), (23, 41, 1084, 0), (26, 0, 0, 0), (27, 37, 1083, 0), (30, 251, 3079, 1), (33, 0, 0, 0), (34, 0, 0, 0), (35, 0, 0, 0), (36, 0, 0, 0), (37, 41, 1084, 0), (40, 172, 203, 1), (43, 0, 0, 0), (46, 0, 0, 0), (47, 27, 1081, 0), (50, 0, 0, 0), (51, 41, 1084, 0), (54, 0, 0, 0), (55, 0, 0, 0), (56, 0, 0, 0), (57, 255, 2084, 1), (60, 0, 0, 0), (63, 0, 0, 0), (66, 0, 0, 0), (67, 51, 1086, 0), (70, 0, 0, 0), (71, 41, 1084, 0), (74, 0, 0, 0), (75, 41, 1084, 0), (78, 172, 203, 1), (81, 0, 0, 0), (82, 41, 1084, 0), (85, 172, 203, 1), (88, 0, 0, 0), (89, 228, 2138, 1), (92, 0, 0, 0), (93, 51, 1086, 0), (96, 0, 0, 0), (97, 0, 0, 0), (98, 41, 1084, 0), (101, 172, 203, 1), (104, 258, 3083, 1), (107, 0, 0, 0)]
def ab_x25 : List (Nat × Nat × Nat × Nat) := [(0, 0, 0, 0), (1, 0, 0, 0), (2, 0, 0, 0), (5, 0, 0, 0), (6, 0, 0, 0), (9, 0, 0, 0), (12, 0, 0, 0), (13, 0, 0, 0), (16, 0, 0, 0), (17, 0, 0, 0), (19, 0, 0, 0), (22, 0, 0, 0), (23, 0, 0, 0), (24, 0, 0, 0), (25, 166, 2208, 0), (28, 0, 0, 0), (29, 57, 1087, 0), (32, 0, 0, 0), (33, 93, 1028, 1), (36, 0, 0, 0), (37, 57, 1087, 0), (40, 0, 0, 0), (41, 97, 1030, 1), (44, 0, 0, 0), (45, 122, 2109, 0), (48, 0, 0, 0), (49, 57, 1087, 0), (52, 235, 1027, 1), (55, 0, 0, 0)]
def ab_x26 : List (Nat × Nat × Nat × Nat) := [(0, 0, 0, 0), (1, 0, 0, 0), (2, 261, 3095, 0), (5, 0, 0, 0), (8, 0, 0, 0), (9, 0, 0, 0), (10, 0, 0, 0), (13, 0, 0, 0), (14, 0, 0, 0), (16, 0, 0, 0), (19, 0, 0, 0), (20, 0, 0, 0), (21, 0, 0, 0), (22, 37, 1083, 0), (25, 172, 203, 1), (28, 0, 0, 0), (29, 67, 1089, 0), (32, 264, 1048, 1), (35, 0, 0, 0), (36, 0, 0, 0), (37, 0, 0, 0), (38, 0, 0, 0), (39, 0, 0, 0), (40, 0, 0, 0), (43, 0, 0, 0), (45, 0, 0, 0), (46, 0, 0, 0), (47, 166, 2208, 0), (50, 0, 0, 0), (51, 0, 0, 0), (52, 265, 3099, 0), (55, 0, 0, 0), (57, 0, 0, 0), (58, 0, 0, 0), (60, 0, 0, 0), (62, 0, 0, 0), (64, 0, 0, 0), (67, 0, 0, 0), (68, 0, 0, 0), (69, 270, 3100, 0), (72, 0, 0, 0), (75, 0, 0, 0), (78, 0, 0, 0), (80, 0, 0, 0)]
def ab_x27 : List (Nat × Nat × Nat × Nat) := [(0, 0, 0, 0), (1, 0, 0, 0), (2, 261, 3095, 0), (5, 0, 0, 0), (8, 0, 0, 0), (9, 0, 0, 0), (10, 0, 0, 0), (11, 166, 2208, 0), (14, 0, 0, 0), (15, 67, 1089, 0), (18, 264, 1048, 1), (21, 0, 0, 0), (22, 0, 0, 0), (23, 0, 0, 0), (24, 0, 0, 0), (25, 67, 1089, 0), (28, 0, 0, 0), (29, 273, 3117, 1), (32, 0, 0, 0), (33, 0, 0, 0)]
def ab_x28 : List (Nat × Nat × Nat × Nat) := [(0, 0, 0, 0), (1, 0, 0, 0), (2, 261, 3095, 0), (5, 0, 0, 0), (8, 224, 3005, 9), (10, 0, 0, 0), (11, 0, 0, 0), (12, 0, 0, 0), (56, 0, 0, 0), (57, 67, 1089, 0), (60, 264, 1048, 1), (63, 0, 0, 0), (64, 0, 0, 0), (65, 0, 0, 0), (66, 0, 0, 0), (67, 37, 1083, 0), (70, 172, 203, 1), (73, 0, 0, 0), (74, 67, 1089, 0), (77, 264, 1048, 1), (80, 0, 0, 0), (81, 0, 0, 0), (82, 0, 0, 0), (83, 0, 0, 0), (84, 0, 0, 0), (85, 67, 1089, 0), (88, 0, 0, 0), (89, 276, 3122, 1), (92, 0, 0, 0), (93, 0, 0, 0), (94, 27, 1081, 0), (97, 279, 118, 1), (100, 0, 0, 0), (101, 0, 0, 0), (102, 0, 0, 0), (103, 0, 0, 0), (104, 27, 1081, 0), (107, 282, 120, 1), (110, 0, 0, 0), (111, 0, 0, 0), (112, 0, 0, 0), (113, 0, 0, 0), (114, 0, 0, 0), (115, 0, 0, 0), (116, 285, 3126, 0), (119, 0, 0, 0), (120, 0, 0, 0), (121, 0, 0, 0), (122, 288, 3138, 0), (125, 0, 0, 0), (126, 0, 0, 0), (127, 0, 0, 0), (128, 285, 3126, 0), (131, 0, 0, 0), (132, 0, 0, 0), (133, 224, 3005, 9), (135, 0, 0, 0)]
def ab_x29 : List (Nat × Nat × Nat × Nat) := [(0, 0, 0, 0), (1, 0, 0, 0), (2, 261, 3095, 0), (5, 0, 0, 0), (8, 0, 0, 0), (9, 0, 0, 0), (10, 218, 2184, 0), (13, 0, 0, 0), (16, 0, 0, 0), (17, 0, 0, 0), (18, 0, 0, 0), (19, 285, 3126, 0), (22, 0, 0, 0), (25, 224, 3005, 9), (27, 0, 0, 0)]
def ab_x30 : List (Nat × Nat × Nat × Nat) := [(0, 0, 0, 0), (1, 0, 0, 0), (2, 0, 0, 0), (5, 224, 3005, 9), (7, 0, 0, 0), (10, 0, 0, 0), (11, 0, 0, 0), (13, 0, 0, 0), (14, 0, 0, 0), (15, 0, 0, 0), (18, 0, 0, 0), (19, 0, 0, 0), (20, 0, 0, 0), (23, 0, 0, 0), (24, 0, 0, 0), (26, 0, 0, 0), (29, 0, 0, 0), (30, 0, 0, 0), (33, 0, 0, 0), (34, 0, 0, 0), (35, 0, 0, 0), (38, 0, 0, 0), (40, 0, 0, 0), (41, 0, 0, 0), (42, 27, 1081, 0), (45, 291, 115, 1), (48, 0, 0, 0), (51, 0, 0, 0), (52, 37, 1083, 0), (55, 172, 203, 1), (58, 0, 0, 0), (59, 0, 0, 0), (60, 0, 0, 0), (62, 0, 0, 0), (65, 0, 0, 0), (67, 0, 0, 0), (68, 0, 0, 0), (69, 41, 1084, 0), (72, 0, 0, 0), (73, 37, 1083, 0), (76, 251, 3079, 1), (79, 0, 0, 0), (80, 0, 0, 0), (81, 0, 0, 0), (82, 0, 0, 0), (85, 0, 0, 0), (86, 27, 1081, 0), (89, 294, 136, 1), (92, 0, 0, 0), (95, 0, 0, 0), (96, 0, 0, 0), (97, 297, 3150, 0), (100, 0, 0, 0), (101, 0, 0, 0), (102, 0, 0, 0), (105, 0, 0, 0), (106, 61, 1088, 0), (109, 0, 0, 0), (110, 57, 1087, 0), (113, 93, 1028, 1), (116, 93, 1028, 1), (119, 0, 0, 0), (120, 61, 1088, 0), (123, 0, 0, 0), (124, 57, 1087, 0), (127, 97, 1030, 1), (130, 97, 1030, 1), (133, 0, 0, 0), (134, 61, 1088, 0), (137, 0, 0, 0), (138, 41, 1084, 0), (141, 0, 0, 0), (142, 37, 1083, 0), (145, 172, 203, 1), (148, 300, 2113, 1), (151, 0, 0, 0), (152, 0, 0, 0), (153, 51, 1086, 0), (156, 0, 0, 0), (157, 41, 1084, 0), (160, 0, 0, 0), (161, 41, 1084, 0), (164, 172, 203, 1), (167, 0, 0, 0), (168, 41, 1084, 0), (171, 172, 203, 1), (174, 0, 0, 0), (175, 228, 2138, 1), (178, 0, 0, 0), (179, 0, 0, 0), (182, 0, 0, 0), (183, 51, 1086, 0), (186, 0, 0, 0), (187, 37, 1083, 0), (190, 172, 203, 1), (193, 0, 0, 0), (194, 41, 1084, 0), (197, 172, 203, 1), (200, 258, 3083, 1), (203, 0, 0, 0), (206, 0, 0, 0), (207, 51, 1086, 0), (210, 304, 3163, 1), (213, 0, 0, 0)]
def ab_x31 : List (Nat × Nat × Nat × Nat) := [(0, 0, 0, 0), (1, 115, 1092, 0), (4, 0, 0, 0), (7, 0, 0, 0), (8, 0, 0, 0), (9, 0, 0, 0), (10, 0, 0, 0), (11, 115, 1092, 0), (14, 0, 0, 0), (15, 0, 0, 0), (16, 115, 1092, 0), (19, 0, 0, 0), (20, 77, 1091, 0), (23, 0, 0, 0), (24, 115, 1092, 0), (27, 0, 0, 0), (28, 0, 0, 0), (29, 0, 0, 0), (30, 37, 1083, 0), (33, 0, 0, 0), (34, 308, 1064, 1), (37, 311, 3171, 1), (40, 0, 0, 0), (41, 0, 0, 0), (42, 314, 3175, 0), (45, 0, 0, 0), (46, 115, 1092, 0), (49, 0, 0, 0)]
def ab_x32 : List (Nat × Nat × Nat × Nat) := [(0, 0, 0, 0), (1, 81, 1093, 0), (4, 0, 0, 0), (5, 37, 1083, 0), (8, 251, 3079, 1), (11, 0, 0, 0), (12, 0, 0, 0), (13, 85, 1094, 0), (16, 318, 2212, 0), (19, 0, 0, 0), (20, 0, 0, 0), (21, 118, 1095, 0), (24, 0, 0, 0), (25, 37, 1083, 0), (28, 172, 203, 1), (31, 0, 0, 0)]
def ab_x33 : List (Nat × Nat × Nat × Nat) := [(0, 0, 0, 0), (1, 118, 1095, 0), (4, 0, 0, 0), (7, 0, 0, 0), (8, 0, 0, 0), (9, 0, 0, 0), (10, 37, 1083, 0), (13, 0, 0, 0), (14, 81, 1093, 0), (17, 251, 3079, 1), (20, 0, 0, 0), (21, 0, 0, 0), (22, 85, 1094, 0), (25, 314, 3175, 0), (28, 0, 0, 0), (29, 0, 0, 0), (30, 115, 1092, 0), (33, 0, 0, 0), (34, 37, 1083, 0), (37, 172, 203, 1), (40, 0, 0, 0)]
def ab_x34 : List (Nat × Nat × Nat × Nat) := [(0, 0, 0, 0), (1, 0, 0, 0), (68, 0, 0, 0), (69, 27, 1081, 0), (72, 291, 115, 1), (75, 0, 0, 0), (76, 0, 0, 0), (77, 37, 1083, 0), (80, 172, 203, 1), (83, 0, 0, 0), (84, 0, 0, 0), (85, 27, 1081, 0), (88, 321, 123, 1), (91, 0, 0, 0), (92, 0, 0, 0), (93, 57, 1087, 0), (96, 235, 1027, 1), (99, 0, 0, 0), (100, 0, 0, 0), (101, 47, 1085, 0), (104, 0, 0, 0), (105, 0, 0, 0), (106, 37, 1083, 0), (109, 172, 203, 1), (112, 258, 3083, 1), (115, 0, 0, 0), (116, 0, 0, 0), (117, 37, 1083, 0), (120, 323, 3191, 1), (123, 0, 0, 0), (124, 0, 0, 0), (125, 37, 1083, 0), (128, 326, 2207, 1), (131, 0, 0, 0), (132, 0, 0, 0), (133, 47, 1085, 0), (136, 329, 3195, 1), (139, 0, 0, 0), (140, 0, 0, 0), (141, 37, 1083, 0), (144, 0, 0, 0), (145, 0, 0, 0), (146, 37, 1083, 0), (149, 172, 203, 1), (152, 203, 3027, 1), (155, 0, 0, 0), (156, 0, 0, 0), (157, 115, 1092, 0), (160, 0, 0, 0), (161, 0, 0, 0), (162, 98, 1079, 0), (165, 0, 0, 0), (166, 0, 0, 0), (167, 57, 1087, 0), (170, 93, 1028, 1), (173, 0, 0, 0), (174, 0, 0, 0), (175, 57, 1087, 0), (178, 97, 1030, 1), (181, 0, 0, 0), (182, 0, 0, 0), (183, 0, 0, 0)]
def ab_x35 : List (Nat × Nat × Nat × Nat) := [(0, 0, 0, 0), (2, 0, 0, 0), (3, 0, 0, 0), (4, 0, 0, 0), (7, 0, 0, 0), (8, 98, 1079, 0), (11, 0, 0, 0), (14, 0, 0, 0), (17, 0, 0, 0), (18, 11, 1078, 0), (21, 0, 0, 0), (22, 98, 1079, 0), (25, 0, 0, 0), (26, 0, 0, 0), (27, 0, 0, 0), (28, 0, 0, 0), (29, 0, 0, 0), (30, 0, 0, 0), (31, 0, 0, 0), (32, 98, 1079, 0), (35, 0, 0, 0), (36, 0, 0, 0), (37, 98, 1079, 0), (40, 0, 0, 0), (43, 0, 0, 0), (46, 0, 0, 0)]
def ab_x36 : List (Nat × Nat × Nat × Nat) := [(0, 0, 0, 0), (1, 31, 1082, 0), (4, 0, 0, 0), (5, 0, 0, 0), (6, 0, 0, 0), (7, 27, 1081, 0), (10, 31, 1082, 0), (13, 0, 0, 0), (14, 0, 0, 0), (15, 27, 1081, 0), (18, 0, 0, 0), (19, 41, 1084, 0), (22, 0, 0, 0), (23, 0, 0, 0), (24, 0, 0, 0), (25, 37, 1083, 0), (28, 41, 1084, 0), (31, 0, 0, 0), (32, 0, 0, 0), (33, 37, 1083, 0), (36, 0, 0, 0), (37, 0, 0, 0), (38, 0, 0, 0), (39, 0, 0, 0), (40, 37, 1083, 0), (43, 172, 203, 1), (46, 0, 0, 0), (49, 0, 0, 0), (50, 27, 1081, 0), (53, 0, 0, 0), (54, 37, 1083, 0), (57, 0, 0, 0), (58, 0, 0, 0), (59, 0, 0, 0), (60, 255, 2084, 1), (63, 0, 0, 0), (66, 0, 0, 0), (69, 0, 0, 0)]
def ab_x37 : List (Nat × Nat × Nat × Nat) := [(0, 0, 0, 0), (1, 0, 0, 0), (4, 0, 0, 0), (5, 0, 0, 0), (6, 27, 1081, 0), (9, 291, 115, 1), (12, 0, 0, 0), (15, 0, 0, 0), (16, 0, 0, 0), (19, 0, 0, 0), (20, 0, 0, 0)]
def ab_x38 : List (Nat × Nat × Nat × Nat) := [(0, 0, 0, 0), (1, 0, 0, 0), (4, 0, 0, 0), (5, 0, 0, 0), (6, 27, 1081, 0), (9, 321, 123, 1), (12, 0, 0, 0), (15, 0, 0, 0), (16, 0, 0, 0), (19, 0, 0, 0), (20, 0, 0, 0)]
def ab_x39 : List (Nat × Nat × Nat × Nat) := [(0, 0, 0, 0), (1, 0, 0, 0), (4, 0, 0, 0), (5, 0, 0, 0), (8, 0, 0, 0), (11, 0, 0, 0), (12, 0, 0, 0), (15, 0, 0, 0), (16, 0, 0, 0)]
def ab_x40 : List (Nat × Nat × Nat × Nat) := [(0, 0, 0, 0), (1, 0, 0, 0), (4, 0, 0, 0), (5, 332, 2194, 9), (8, 0, 0, 0), (11, 0, 0, 0), (12, 0, 0, 0), (15, 0, 0, 0), (16, 0, 0, 0)]
def ab_x41 : List (Nat × Nat × Nat × Nat) := [(0, 0, 0, 0), (1, 0, 0, 0), (4, 0, 0, 0), (5, 0, 0, 0), (7, 0, 0, 0), (10, 0, 0, 0), (11, 0, 0, 0), (12, 218, 2184, 0), (15, 0, 0, 0), (18, 0, 0, 0), (19, 0, 0, 0), (20, 0, 0, 0), (21, 0, 0, 0), (23, 0, 0, 0), (26, 0, 0, 0), (27, 0, 0, 0), (28, 218, 2184, 0), (31, 0, 0, 0), (34, 0, 0, 0), (35, 0, 0, 0), (36, 0, 0, 0), (39, 0, 0, 0), (40, 0, 0, 0), (43, 0, 0, 0), (44, 0, 0, 0)]
def ab_x42 : List (Nat × Nat × Nat × Nat) := [(0, 0, 0, 0), (1, 71, 1090, 0), (4, 0, 0, 0), (5, 0, 0, 0), (6, 0, 0, 0), (7, 0, 0, 0), (8, 71, 1090, 0), (11, 0, 0, 0), (12, 0, 0, 0), (13, 0, 0, 0), (14, 0, 0, 0), (15, 71, 1090, 0), (18, 0, 0, 0), (19, 0, 0, 0), (20, 0, 0, 0), (21, 0, 0, 0)]
def ab_x43 : List (Nat × Nat × Nat × Nat) := [(0, 0, 0, 0), (1, 0, 0, 0), (2, 37, 1083, 0), (5, 326, 2207, 1), (8, 0, 0, 0), (11, 0, 0, 0), (13, 0, 0, 0), (14, 0, 0, 0), (15, 37, 1083, 0), (18, 172, 203, 1), (21, 0, 0, 0), (23, 0, 0, 0), (26, 0, 0, 0), (28, 0, 0, 0), (31, 0, 0, 0), (32, 0, 0, 0)]
def ab_x44 : List (Nat × Nat × Nat × Nat) := [(0, 0, 0, 0), (1, 0, 0, 0), (3, 163, 2203, 0), (6, 0, 0, 0), (8, 0, 0, 0), (10, 0, 0, 0), (13, 0, 0, 0), (15, 0, 0, 0), (16, 0, 0, 0), (17, 166, 2208, 0), (20, 0, 0, 0), (21, 37, 1083, 0), (24, 172, 203, 1), (27, 0, 0, 0), (29, 0, 0, 0), (30, 37, 1083, 0), (33, 0, 0, 0), (34, 0, 0, 0), (35, 0, 0, 0), (36, 0, 0, 0), (38, 0, 0, 0), (40, 0, 0, 0), (41, 71, 1090, 0), (44, 333, 2221, 1), (47, 0, 0, 0), (48, 27, 1081, 0), (51, 0, 0, 0), (52, 37, 1083, 0), (55, 0, 0, 0), (57, 0, 0, 0), (58, 0, 0, 0), (59, 255, 2084, 1), (62, 0, 0, 0), (63, 122, 2109, 0), (66, 0, 0, 0), (68, 0, 0, 0)]
def ab_x45 : List (Nat × Nat × Nat × Nat) := [(0, 0, 0, 0), (1, 57, 1087, 0), (4, 0, 0, 0), (5, 37, 1083, 0), (8, 0, 0, 0), (9, 300, 2113, 1), (12, 0, 0, 0), (13, 0, 0, 0), (14, 47, 1085, 0), (17, 0, 0, 0), (18, 37, 1083, 0), (21, 0, 0, 0), (22, 37, 1083, 0), (25, 172, 203, 1), (28, 0, 0, 0), (29, 37, 1083, 0), (32, 172, 203, 1), (35, 0, 0, 0), (36, 228, 2138, 1), (39, 0, 0, 0)]
def ab_x46 : List (Nat × Nat × Nat × Nat) := [(0, 0, 0, 0), (1, 37, 1083, 0), (4, 0, 0, 0), (5, 57, 1087, 0), (8, 0, 0, 0), (9, 337, 3026, 1), (12, 0, 0, 0), (13, 203, 3027, 1), (16, 0, 0, 0)]
def ab_x47 : List (Nat × Nat × Nat × Nat) := [(0, 0, 0, 0), (1, 67, 1089, 0), (4, 264, 1048, 1), (7, 0, 0, 0), (8, 0, 0, 0), (9, 0, 0, 0), (10, 0, 0, 0), (11, 37, 1083, 0), (14, 0, 0, 0), (15, 175, 3056, 1), (18, 0, 0, 0), (21, 0, 0, 0), (22, 0, 0, 0), (23, 37, 1083, 0), (26, 185, 173, 1), (29, 0, 0, 0), (30, 0, 0, 0), (31, 0, 0, 0), (33, 0, 0, 0), (36, 0, 0, 0), (37, 67, 1089, 0), (40, 0, 0, 0), (41, 0, 0, 0), (42, 37, 1083, 0), (45, 191, 181, 1), (48, 0, 0, 0), (49, 0, 0, 0), (50, 340, 3104, 1), (53, 0, 0, 0), (56, 0, 0, 0), (57, 0, 0, 0), (58, 0, 0, 0), (59, 343, 3105, 0), (62, 0, 0, 0), (65, 0, 0, 0), (66, 67, 1089, 0), (69, 0, 0, 0), (70, 0, 0, 0), (71, 347, 3109, 1), (74, 0, 0, 0), (75, 67, 1089, 0), (78, 264, 1048, 1), (81, 0, 0, 0), (82, 0, 0, 0), (83, 0, 0, 0), (84, 0, 0, 0), (85, 0, 0, 0), (86, 0, 0, 0)]
def ab_x48 : List (Nat × Nat × Nat × Nat) := [(0, 0, 0, 0), (1, 37, 1083, 0), (4, 185, 173, 1), (7, 0, 0, 0), (8, 0, 0, 0), (9, 0, 0, 0), (10, 27, 1081, 0), (13, 279, 118, 1), (16, 0, 0, 0), (17, 0, 0, 0), (18, 0, 0, 0), (21, 0, 0, 0), (22, 47, 1085, 0), (25, 200, 1000, 1), (28, 0, 0, 0), (29, 0, 0, 0), (30, 0, 0, 0), (33, 0, 0, 0), (34, 37, 1083, 0), (37, 160, 198, 1), (40, 0, 0, 0), (41, 0, 0, 0), (42, 0, 0, 0), (43, 0, 0, 0), (46, 0, 0, 0), (47, 0, 0, 0), (50, 0, 0, 0), (51, 0, 0, 0)]
def ab_x49 : List (Nat × Nat × Nat × Nat) := [(0, 0, 0, 0), (1, 37, 1083, 0), (4, 212, 191, 1), (7, 0, 0, 0), (8, 0, 0, 0), (9, 0, 0, 0), (10, 0, 0, 0), (11, 27, 1081, 0), (14, 282, 120, 1), (17, 0, 0, 0), (18, 0, 0, 0), (19, 0, 0, 0), (20, 0, 0, 0), (21, 0, 0, 0), (22, 0, 0, 0), (23, 0, 0, 0)]
def ab_x50 : List (Nat × Nat × Nat × Nat) := [(0, 0, 0, 0), (1, 0, 0, 0), (2, 0, 0, 0), (3, 0, 0, 0), (5, 0, 0, 0), (7, 0, 0, 0), (8, 37, 1083, 0), (11, 172, 203, 1), (14, 0, 0, 0), (17, 0, 0, 0), (18, 67, 1089, 0), (21, 0, 0, 0), (22, 0, 0, 0), (24, 350, 3130, 1), (27, 0, 0, 0), (30, 0, 0, 0), (31, 0, 0, 0), (32, 0, 0, 0), (35, 0, 0, 0), (36, 37, 1083, 0), (39, 188, 177, 1), (42, 0, 0, 0), (44, 0, 0, 0), (45, 0, 0, 0), (46, 0, 0, 0), (49, 0, 0, 0), (50, 0, 0, 0), (51, 0, 0, 0), (52, 0, 0, 0), (54, 353, 3134, 0), (57, 0, 0, 0), (58, 0, 0, 0), (59, 0, 0, 0), (62, 0, 0, 0), (65, 0, 0, 0), (66, 0, 0, 0)]
def ab_x51 : List (Nat × Nat × Nat × Nat) := [(0, 0, 0, 0), (1, 0, 0, 0), (2, 0, 0, 0), (3, 0, 0, 0), (4, 0, 0, 0), (5, 0, 0, 0), (6, 37, 1083, 0), (9, 172, 203, 1), (12, 0, 0, 0), (15, 0, 0, 0), (16, 0, 0, 0), (17, 0, 0, 0), (18, 343, 3105, 0), (21, 0, 0, 0), (24, 0, 0, 0), (25, 0, 0, 0), (26, 0, 0, 0), (27, 0, 0, 0), (28, 353, 3134, 0), (31, 0, 0, 0), (32, 0, 0, 0), (33, 0, 0, 0), (36, 0, 0, 0), (39, 0, 0, 0), (40, 0, 0, 0)]
def ab_x52 : List (Nat × Nat × Nat × Nat) := [(0, 0, 0, 0), (1, 0, 0, 0), (2, 37, 1083, 0), (5, 326, 2207, 1), (8, 356, 3154, 0), (11, 0, 0, 0), (12, 0, 0, 0), (13, 0, 0, 0), (15, 0, 0, 0), (16, 0, 0, 0), (18, 0, 0, 0), (20, 0, 0, 0), (21, 0, 0, 0), (24, 0, 0, 0), (26, 359, 3155, 0), (29, 0, 0, 0), (31, 0, 0, 0), (33, 0, 0, 0), (34, 362, 3160, 0), (37, 0, 0, 0), (39, 0, 0, 0), (41, 359, 3155, 0), (44, 0, 0, 0), (46, 0, 0, 0), (48, 0, 0, 0), (49, 27, 1081, 0), (52, 291, 115, 1), (55, 362, 3160, 0), (58, 0, 0, 0), (60, 0, 0, 0), (62, 359, 3155, 0), (65, 0, 0, 0), (67, 0, 0, 0), (68, 0, 0, 0), (70, 0, 0, 0), (73, 362, 3160, 0), (76, 0, 0, 0), (77, 149, 2195, 0), (80, 0, 0, 0), (81, 41, 1084, 0), (84, 172, 203, 1), (87, 0, 0, 0), (89, 0, 0, 0), (90, 41, 1084, 0), (93, 0, 0, 0), (95, 0, 0, 0), (97, 0, 0, 0), (98, 0, 0, 0), (99, 0, 0, 0), (100, 0, 0, 0), (101, 71, 1090, 0), (104, 333, 2221, 1), (107, 0, 0, 0), (108, 27, 1081, 0), (111, 0, 0, 0), (112, 41, 1084, 0), (115, 0, 0, 0), (117, 0, 0, 0), (118, 0, 0, 0), (119, 255, 2084, 1), (122, 0, 0, 0), (125, 0, 0, 0), (128, 0, 0, 0)]
def ab_x53 : List (Nat × Nat × Nat × Nat) := [(0, 0, 0, 0), (1, 365, 3158, 9), (4, 0, 0, 0), (5, 0, 0, 0), (8, 0, 0, 0), (9, 366, 3159, 9), (12, 0, 0, 0), (13, 0, 0, 0)]
def ab_x54 : List (Nat × Nat × Nat × Nat) := [(0, 0, 0, 0), (1, 0, 0, 0), (4, 0, 0, 0), (5, 0, 0, 0), (7, 0, 0, 0), (8, 0, 0, 0), (9, 0, 0, 0), (10, 0, 0, 0), (13, 0, 0, 0), (14, 0, 0, 0)]
def ab_x55 : List (Nat × Nat × Nat × Nat) := [(0, 0, 0, 0), (1, 115, 1092, 0), (4, 0, 0, 0), (6, 0, 0, 0), (9, 0, 0, 0), (10, 77, 1091, 0), (13, 0, 0, 0), (14, 0, 0, 0), (15, 0, 0, 0), (16, 0, 0, 0), (17, 0, 0, 0), (18, 0, 0, 0), (19, 0, 0, 0), (21, 0, 0, 0), (24, 0, 0, 0), (25, 77, 1091, 0), (28, 0, 0, 0), (29, 0, 0, 0), (30, 0, 0, 0), (31, 0, 0, 0), (32, 77, 1091, 0), (35, 0, 0, 0), (36, 0, 0, 0), (37, 0, 0, 0), (38, 0, 0, 0), (41, 0, 0, 0), (44, 0, 0, 0), (45, 77, 1091, 0), (48, 0, 0, 0), (50, 0, 0, 0), (51, 0, 0, 0), (52, 0, 0, 0), (53, 0, 0, 0), (55, 115, 1092, 0), (58, 0, 0, 0), (59, 0, 0, 0), (60, 77, 1091, 0), (63, 0, 0, 0), (64, 115, 1092, 0), (67, 0, 0, 0), (68, 318, 2212, 0), (71, 0, 0, 0), (72, 0, 0, 0), (73, 115, 1092, 0), (76, 0, 0, 0), (77, 0, 0, 0), (78, 115, 1092, 0), (81, 0, 0, 0)]
def ab_x56 : List (Nat × Nat × Nat × Nat) := [(0, 0, 0, 0), (1, 0, 0, 0), (2, 37, 1083, 0), (5, 172, 203, 1), (8, 308, 1064, 1), (11, 0, 0, 0), (12, 0, 0, 0), (13, 57, 1087, 0), (16, 93, 1028, 1), (19, 367, 1065, 1), (22, 0, 0, 0), (23, 0, 0, 0), (24, 57, 1087, 0), (27, 97, 1030, 1), (30, 368, 1066, 1), (33, 0, 0, 0), (34, 369, 1068, 1), (37, 0, 0, 0), (38, 67, 1089, 0), (41, 370, 2216, 1), (44, 0, 0, 0)]
def ab_x57 : List (Nat × Nat × Nat × Nat) := [(0, 0, 0, 0), (1, 57, 1087, 0), (4, 0, 0, 0), (5, 367, 1065, 1), (8, 93, 1028, 1), (11, 0, 0, 0), (12, 57, 1087, 0), (15, 0, 0, 0), (16, 368, 1066, 1), (19, 97, 1030, 1), (22, 0, 0, 0), (23, 67, 1089, 0), (26, 0, 0, 0), (27, 369, 1068, 1), (30, 370, 2216, 1), (33, 0, 0, 0), (34, 122, 2109, 0), (37, 0, 0, 0)]
def ab_x58 : List (Nat × Nat × Nat × Nat) := [(0, 0, 0, 0), (1, 1, 4055, 0), (4, 0, 0, 0), (5, 0, 0, 0), (8, 0, 0, 0), (10, 7, 4113, 0), (13, 0, 0, 0), (14, 0, 0, 0), (16, 0, 0, 0), (18, 13, 4115, 0), (21, 0, 0, 0), (22, 0, 0, 0), (24, 0, 0, 0), (26, 16, 4116, 0), (29, 0, 0, 0), (30, 0, 0, 0), (32, 0, 0, 0), (34, 19, 4117, 0), (37, 0, 0, 0), (38, 0, 0, 0), (40, 0, 0, 0), (42, 22, 4118, 0), (45, 0, 0, 0), (46, 0, 0, 0), (48, 0, 0, 0), (50, 25, 4119, 0), (53, 0, 0, 0), (54, 0, 0, 0), (56, 0, 0, 0), (58, 28, 4120, 0), (61, 0, 0, 0), (62, 0, 0, 0), (64, 0, 0, 0), (66, 31, 4121, 0), (69, 0, 0, 0), (70, 0, 0, 0), (72, 0, 0, 0), (74, 34, 4122, 0), (77, 0, 0, 0), (78, 0, 0, 0), (80, 0, 0, 0), (82, 37, 4123, 0), (85, 0, 0, 0), (86, 0, 0, 0), (89, 0, 0, 0), (91, 40, 4124, 0), (94, 0, 0, 0), (95, 0, 0, 0), (97, 0, 0, 0), (99, 43, 4125, 0), (102, 0, 0, 0), (103, 0, 0, 0), (104, 46, 4137, 0), (107, 0, 0, 0), (108, 0, 0, 0), (111, 0, 0, 0), (113, 50, 4138, 0), (116, 0, 0, 0), (117, 0, 0, 0), (120, 0, 0, 0), (122, 53, 4139, 0), (125, 0, 0, 0), (126, 0, 0, 0), (129, 0, 0, 0), (131, 56, 4140, 0), (134, 0, 0, 0), (135, 0, 0, 0), (138, 0, 0, 0), (140, 59, 4141, 0), (143, 0, 0, 0), (144, 0, 0, 0), (145, 0, 0, 0), (147, 62, 4145, 0), (150, 0, 0, 0), (151, 0, 0, 0), (152, 65, 4146, 0), (155, 0, 0, 0), (156, 0, 0, 0), (158, 0, 0, 0), (160, 68, 4148, 0), (163, 0, 0, 0), (164, 0, 0, 0), (166, 0, 0, 0), (168, 71, 4149, 0), (171, 0, 0, 0), (172, 0, 0, 0), (174, 0, 0, 0), (176, 74, 4150, 0), (179, 0, 0, 0), (180, 0, 0, 0), (182, 0, 0, 0), (184, 77, 4151, 0), (187, 0, 0, 0), (188, 0, 0, 0), (190, 0, 0, 0), (192, 81, 4152, 0), (195, 0, 0, 0), (196, 0, 0, 0), (198, 0, 0, 0), (200, 84, 4156, 0), (203, 0, 0, 0), (204, 87, 4056, 0), (207, 0, 0, 0), (208, 90, 4064, 0), (211, 0, 0, 0), (212, 93, 4072, 0), (215, 0, 0, 0)]
def ab_x59 : List (Nat × Nat × Nat × Nat) := [(0, 0, 0, 0), (1, 96, 4112, 0), (4, 0, 0, 0)]
def ab_x60 : List (Nat × Nat × Nat × Nat) := [(0, 0, 0, 0), (1, 0, 0, 0), (2, 96, 4112, 0), (5, 0, 0, 0), (6, 99, 4114, 0), (9, 0, 0, 0), (12, 0, 0, 0), (15, 0, 0, 0), (16, 0, 0, 0), (17, 0, 0, 0), (18, 0, 0, 0), (20, 0, 0, 0), (22, 0, 0, 0), (24, 0, 0, 0), (27, 0, 0, 0), (29, 0, 0, 0), (30, 0, 0, 0), (33, 0, 0, 0), (34, 0, 0, 0), (37, 0, 0, 0), (39, 0, 0, 0), (41, 0, 0, 0), (44, 0, 0, 0), (45, 0, 0, 0), (48, 0, 0, 0), (50, 0, 0, 0), (52, 0, 0, 0), (55, 0, 0, 0), (56, 0, 0, 0), (59, 0, 0, 0), (61, 0, 0, 0), (63, 0, 0, 0), (66, 0, 0, 0), (68, 0, 0, 0), (71, 0, 0, 0), (73, 0, 0, 0), (75, 0, 0, 0), (76, 7, 4113, 0), (79, 0, 0, 0), (80, 99, 4114, 0), (83, 0, 0, 0), (85, 0, 0, 0), (86, 0, 0, 0), (88, 0, 0, 0), (90, 0, 0, 0), (92, 0, 0, 0), (94, 0, 0, 0), (95, 0, 0, 0), (96, 0, 0, 0), (97, 0, 0, 0), (98, 0, 0, 0), (99, 0, 0, 0), (102, 0, 0, 0), (103, 0, 0, 0), (104, 0, 0, 0), (107, 0, 0, 0), (110, 0, 0, 0), (111, 0, 0, 0), (112, 99, 4114, 0), (115, 0, 0, 0), (117, 0, 0, 0), (118, 99, 4114, 0), (121, 0, 0, 0), (122, 99, 4114, 0), (125, 0, 0, 0)]
def ab_x61 : List (Nat × Nat × Nat × Nat) := [(0, 0, 0, 0), (1, 102, 4130, 0), (4, 0, 0, 0), (5, 105, 4129, 0), (8, 0, 0, 0), (11, 0, 0, 0), (12, 7, 4113, 0), (15, 0, 0, 0), (16, 102, 4130, 0), (19, 0, 0, 0), (20, 0, 0, 0), (23, 0, 0, 0), (24, 0, 0, 0)]
def ab_x62 : List (Nat × Nat × Nat × Nat) := [(0, 0, 0, 0), (1, 0, 0, 0), (3, 0, 0, 0), (6, 0, 0, 0), (7, 0, 0, 0), (9, 0, 0, 0), (12, 0, 0, 0), (13, 0, 0, 0), (16, 0, 0, 0), (17, 0, 0, 0)]
def ab_x63 : List (Nat × Nat × Nat × Nat) := [(0, 0, 0, 0), (1, 0, 0, 0), (3, 0, 0, 0), (6, 0, 0, 0), (7, 0, 0, 0), (9, 0, 0, 0), (12, 0, 0, 0), (13, 0, 0, 0), (16, 0, 0, 0), (17, 0, 0, 0)]
def ab_x64 : List (Nat × Nat × Nat × Nat) := [(0, 0, 0, 0), (1, 108, 5032, 0), (4, 0, 0, 0), (6, 0, 0, 0), (9, 0, 0, 0), (10, 108, 5032, 0), (13, 0, 0, 0), (15, 0, 0, 0), (18, 0, 0, 0), (19, 0, 0, 0), (20, 102, 4130, 0), (23, 0, 0, 0), (24, 0, 0, 0), (25, 102, 4130, 0), (28, 0, 0, 0), (31, 0, 0, 0), (32, 0, 0, 0), (33, 102, 4130, 0), (36, 112, 4131, 0), (39, 0, 0, 0), (40, 108, 5032, 0), (43, 0, 0, 0), (44, 0, 0, 0), (45, 0, 0, 0), (46, 0, 0, 0), (49, 0, 0, 0), (50, 0, 0, 0), (51, 115, 4132, 0), (54, 0, 0, 0), (57, 0, 0, 0), (58, 118, 5036, 0), (61, 0, 0, 0), (64, 0, 0, 0), (65, 108, 5032, 0), (68, 118, 5036, 0), (71, 0, 0, 0), (74, 0, 0, 0), (75, 0, 0, 0), (76, 102, 4130, 0), (79, 0, 0, 0), (80, 0, 0, 0), (81, 102, 4130, 0), (84, 0, 0, 0), (87, 0, 0, 0), (88, 0, 0, 0), (89, 122, 5039, 0), (92, 125, 4133, 0), (95, 0, 0, 0), (96, 0, 0, 0), (97, 125, 4133, 0), (100, 0, 0, 0), (101, 0, 0, 0), (104, 0, 0, 0), (105, 0, 0, 0), (108, 0, 0, 0), (109, 102, 4130, 0), (112, 0, 0, 0), (113, 112, 4131, 0), (116, 0, 0, 0), (117, 0, 0, 0), (119, 0, 0, 0), (122, 0, 0, 0), (123, 0, 0, 0), (126, 0, 0, 0), (127, 115, 4132, 0), (130, 0, 0, 0), (131, 115, 4132, 0), (134, 0, 0, 0), (135, 0, 0, 0), (138, 0, 0, 0), (139, 128, 5092, 0), (142, 0, 0, 0), (145, 0, 0, 0), (146, 131, 5096, 0), (149, 0, 0, 0), (152, 0, 0, 0), (153, 0, 0, 0), (154, 115, 4132, 0), (157, 0, 0, 0), (158, 0, 0, 0), (159, 125, 4133, 0), (162, 0, 0, 0), (163, 108, 5032, 0), (166, 131, 5096, 0), (169, 0, 0, 0), (172, 0, 0, 0), (173, 0, 0, 0), (174, 125, 4133, 0), (177, 134, 5099, 9), (179, 0, 0, 0), (182, 0, 0, 0), (183, 125, 4133, 0), (186, 0, 0, 0), (189, 0, 0, 0), (191, 0, 0, 0), (192, 125, 4133, 0), (195, 0, 0, 0), (196, 0, 0, 0), (197, 108, 5032, 0), (200, 0, 0, 0), (201, 0, 0, 0), (203, 0, 0, 0), (204, 125, 4133, 0), (207, 0, 0, 0), (208, 0, 0, 0), (209, 102, 4130, 0), (212, 0, 0, 0), (213, 0, 0, 0), (214, 102, 4130, 0), (217, 0, 0, 0), (220, 0, 0, 0), (221, 0, 0, 0), (222, 0, 0, 0), (224, 0, 0, 0), (227, 0, 0, 0), (228, 0, 0, 0), (231, 0, 0, 0), (232, 115, 4132, 0), (235, 0, 0, 0), (236, 0, 0, 0), (237, 102, 4130, 0), (240, 0, 0, 0), (241, 0, 0, 0), (242, 102, 4130, 0), (245, 0, 0, 0)]
def ab_x65 : List (Nat × Nat × Nat × Nat) := [(0, 0, 0, 0), (1, 0, 0, 0), (2, 0, 0, 0), (3, 0, 0, 0), (4, 0, 0, 0), (5, 135, 0, 0), (7, 137, 5044, 0), (10, 0, 0, 0), (13, 0, 0, 0), (14, 0, 0, 0), (15, 135, 0, 0), (17, 0, 0, 0), (18, 0, 0, 0), (19, 0, 0, 0), (20, 142, 5054, 0), (23, 0, 0, 0), (25, 0, 0, 0), (28, 0, 0, 0), (29, 112, 4131, 0), (32, 0, 0, 0), (33, 0, 0, 0), (34, 0, 0, 0), (35, 102, 4130, 0), (38, 0, 0, 0), (41, 0, 0, 0), (42, 7, 4113, 0), (45, 0, 0, 0), (46, 112, 4131, 0), (49, 0, 0, 0), (50, 0, 0, 0), (51, 0, 0, 0), (52, 135, 0, 0), (54, 0, 0, 0), (55, 0, 0, 0), (56, 0, 0, 0), (57, 142, 5054, 0), (60, 0, 0, 0), (63, 0, 0, 0), (66, 0, 0, 0), (69, 135, 0, 0), (71, 0, 0, 0), (72, 0, 0, 0), (73, 0, 0, 0), (74, 142, 5054, 0), (77, 0, 0, 0), (79, 0, 0, 0), (82, 0, 0, 0), (83, 112, 4131, 0), (86, 0, 0, 0), (87, 0, 0, 0), (88, 0, 0, 0), (89, 102, 4130, 0), (92, 0, 0, 0), (95, 0, 0, 0), (96, 0, 0, 0), (97, 135, 0, 0), (99, 0, 0, 0), (100, 142, 5054, 0), (103, 0, 0, 0), (105, 0, 0, 0), (108, 0, 0, 0), (111, 0, 0, 0), (114, 0, 0, 0), (117, 0, 0, 0), (120, 0, 0, 0), (123, 0, 0, 0), (124, 0, 0, 0)]
def ab_x66 : List (Nat × Nat × Nat × Nat) := [(0, 0, 0, 0), (1, 0, 0, 0), (2, 125, 4133, 0), (5, 0, 0, 0), (6, 0, 0, 0), (7, 0, 0, 0), (8, 0, 0, 0), (10, 0, 0, 0), (13, 0, 0, 0), (14, 0, 0, 0), (15, 125, 4133, 0), (18, 0, 0, 0), (19, 0, 0, 0), (20, 0, 0, 0), (21, 112, 4131, 0), (24, 0, 0, 0), (25, 0, 0, 0), (26, 0, 0, 0), (27, 102, 4130, 0), (30, 0, 0, 0), (33, 0, 0, 0), (34, 7, 4113, 0), (37, 0, 0, 0), (38, 112, 4131, 0), (41, 0, 0, 0), (42, 0, 0, 0), (43, 0, 0, 0), (44, 0, 0, 0), (46, 0, 0, 0), (47, 0, 0, 0), (48, 0, 0, 0), (49, 0, 0, 0), (52, 0, 0, 0), (53, 0, 0, 0), (54, 125, 4133, 0), (57, 0, 0, 0), (60, 0, 0, 0), (63, 0, 0, 0)]
def ab_x67 : List (Nat × Nat × Nat × Nat) := [(0, 0, 0, 0), (1, 146, 4134, 0), (4, 0, 0, 0), (7, 0, 0, 0), (8, 0, 0, 0), (9, 0, 0, 0), (10, 146, 4134, 0), (13, 0, 0, 0), (14, 0, 0, 0), (15, 112, 4131, 0), (18, 149, 4135, 0), (21, 0, 0, 0)]
def ab_x68 : List (Nat × Nat × Nat × Nat) := [(0, 0, 0, 0), (1, 146, 4134, 0), (4, 0, 0, 0), (7, 0, 0, 0), (8, 152, 5028, 0), (11, 0, 0, 0)]
def ab_x69 : List (Nat × Nat × Nat × Nat) := [(0, 0, 0, 0), (1, 146, 4134, 0), (4, 0, 0, 0), (7, 0, 0, 0), (8, 0, 0, 0), (9, 0, 0, 0), (10, 115, 4132, 0), (13, 0, 0, 0), (14, 0, 0, 0), (17, 0, 0, 0), (18, 0, 0, 0), (19, 155, 5104, 0), (22, 0, 0, 0), (25, 0, 0, 0), (26, 125, 4133, 0), (29, 0, 0, 0), (30, 0, 0, 0), (33, 0, 0, 0), (34, 125, 4133, 0), (37, 0, 0, 0), (38, 0, 0, 0), (41, 0, 0, 0), (42, 0, 0, 0), (43, 155, 5104, 0), (46, 0, 0, 0), (47, 146, 4134, 0), (50, 0, 0, 0), (53, 0, 0, 0), (54, 125, 4133, 0), (57, 0, 0, 0), (60, 0, 0, 0), (61, 0, 0, 0), (62, 0, 0, 0), (63, 159, 5112, 0), (66, 0, 0, 0), (67, 0, 0, 0)]
def ab_x70 : List (Nat × Nat × Nat × Nat) := [(0, 0, 0, 0), (1, 13, 4115, 0), (4, 0, 0, 0), (6, 0, 0, 0), (7, 0, 0, 0), (8, 0, 0, 0), (9, 0, 0, 0)]
def ab_x71 : List (Nat × Nat × Nat × Nat) := [(0, 0, 0, 0), (1, 13, 4115, 0), (4, 0, 0, 0), (6, 0, 0, 0), (7, 0, 0, 0), (8, 0, 0, 0), (9, 0, 0, 0), (10, 0, 0, 0)]
def ab_x72 : List (Nat × Nat × Nat × Nat) := [(0, 0, 0, 0), (1, 0, 0, 0), (3, 0, 0, 0), (5, 0, 0, 0), (6, 0, 0, 0), (9, 0, 0, 0), (10, 0, 0, 0), (11, 0, 0, 0), (13, 0, 0, 0), (14, 0, 0, 0), (15, 0, 0, 0), (16, 0, 0, 0), (19, 0, 0, 0), (21, 0, 0, 0), (22, 0, 0, 0), (25, 0, 0, 0), (28, 0, 0, 0), (29, 0, 0, 0)]
def ab_x73 : List (Nat × Nat × Nat × Nat) := [(0, 0, 0, 0), (1, 159, 5112, 0), (4, 0, 0, 0), (5, 146, 4134, 0), (8, 0, 0, 0), (11, 0, 0, 0), (12, 0, 0, 0), (13, 115, 4132, 0), (16, 0, 0, 0), (17, 0, 0, 0), (20, 0, 0, 0), (21, 0, 0, 0), (22, 155, 5104, 0), (25, 0, 0, 0), (28, 0, 0, 0), (29, 0, 0, 0), (30, 0, 0, 0), (31, 0, 0, 0), (32, 125, 4133, 0), (35, 162, 5120, 0), (38, 0, 0, 0), (39, 0, 0, 0), (42, 0, 0, 0), (43, 0, 0, 0), (44, 155, 5104, 0), (47, 0, 0, 0), (48, 146, 4134, 0), (51, 0, 0, 0), (54, 0, 0, 0), (55, 0, 0, 0), (56, 0, 0, 0), (57, 0, 0, 0), (58, 0, 0, 0), (59, 0, 0, 0), (60, 125, 4133, 0), (63, 0, 0, 0), (64, 0, 0, 0), (65, 152, 5028, 0), (68, 0, 0, 0)]
def ab_x74 : List (Nat × Nat × Nat × Nat) := [(0, 0, 0, 0), (1, 146, 4134, 0), (4, 0, 0, 0), (7, 0, 0, 0), (8, 0, 0, 0), (9, 0, 0, 0), (10, 115, 4132, 0), (13, 0, 0, 0), (16, 0, 0, 0), (17, 125, 4133, 0), (20, 0, 0, 0), (21, 0, 0, 0), (24, 0, 0, 0), (25, 125, 4133, 0), (28, 0, 0, 0), (29, 0, 0, 0), (32, 0, 0, 0), (33, 0, 0, 0), (34, 155, 5104, 0), (37, 0, 0, 0), (38, 146, 4134, 0), (41, 0, 0, 0), (44, 0, 0, 0), (45, 125, 4133, 0), (48, 0, 0, 0), (51, 0, 0, 0), (52, 0, 0, 0), (53, 0, 0, 0), (54, 159, 5112, 0), (57, 0, 0, 0), (58, 0, 0, 0)]
def ab_x75 : List (Nat × Nat × Nat × Nat) := [(0, 0, 0, 0), (1, 146, 4134, 0), (4, 0, 0, 0), (7, 0, 0, 0), (8, 0, 0, 0), (9, 0, 0, 0), (10, 115, 4132, 0), (13, 0, 0, 0), (14, 0, 0, 0), (17, 0, 0, 0), (18, 0, 0, 0), (19, 155, 5104, 0), (22, 0, 0, 0), (23, 146, 4134, 0), (26, 0, 0, 0), (29, 0, 0, 0), (30, 16, 4116, 0), (33, 0, 0, 0), (35, 0, 0, 0), (36, 0, 0, 0), (37, 166, 4068, 0), (40, 0, 0, 0), (41, 125, 4133, 0), (44, 162, 5120, 0), (47, 0, 0, 0), (50, 0, 0, 0), (51, 0, 0, 0), (52, 0, 0, 0), (53, 0, 0, 0), (54, 0, 0, 0), (57, 0, 0, 0), (58, 0, 0, 0), (59, 155, 5104, 0), (62, 0, 0, 0), (63, 0, 0, 0), (64, 0, 0, 0), (67, 0, 0, 0), (68, 0, 0, 0), (71, 0, 0, 0), (72, 0, 0, 0)]
def ab_x76 : List (Nat × Nat × Nat × Nat) := [(0, 0, 0, 0), (1, 0, 0, 0), (2, 166, 4068, 0), (5, 0, 0, 0), (7, 0, 0, 0), (10, 0, 0, 0), (11, 0, 0, 0), (12, 155, 5104, 0), (15, 0, 0, 0), (16, 0, 0, 0), (17, 16, 4116, 0), (20, 0, 0, 0), (22, 0, 0, 0), (23, 0, 0, 0), (24, 166, 4068, 0), (27, 170, 5139, 0), (30, 0, 0, 0), (31, 146, 4134, 0), (34, 0, 0, 0), (37, 0, 0, 0), (38, 0, 0, 0), (39, 0, 0, 0), (40, 0, 0, 0), (41, 166, 4068, 0), (44, 0, 0, 0), (45, 0, 0, 0), (46, 174, 4060, 0), (49, 0, 0, 0)]
def ab_x77 : List (Nat × Nat × Nat × Nat) := [(0, 0, 0, 0), (2, 0, 0, 0), (3, 0, 0, 0), (4, 0, 0, 0), (6, 0, 0, 0), (7, 0, 0, 0), (8, 0, 0, 0), (9, 0, 0, 0), (10, 0, 0, 0), (11, 0, 0, 0), (12, 0, 0, 0), (13, 0, 0, 0), (14, 0, 0, 0), (15, 0, 0, 0), (16, 0, 0, 0), (17, 0, 0, 0)]
def ab_x78 : List (Nat × Nat × Nat × Nat) := [(0, 0, 0, 0), (1, 159, 5112, 0), (4, 0, 0, 0), (5, 0, 0, 0), (6, 0, 0, 0), (8, 178, 5147, 0), (11, 0, 0, 0), (12, 0, 0, 0), (13, 112, 4131, 0), (16, 0, 0, 0), (17, 0, 0, 0), (18, 0, 0, 0), (19, 0, 0, 0), (20, 182, 5127, 0), (23, 0, 0, 0), (24, 0, 0, 0), (26, 0, 0, 0), (27, 0, 0, 0), (28, 0, 0, 0), (29, 0, 0, 0), (30, 0, 0, 0), (31, 0, 0, 0), (32, 0, 0, 0), (33, 0, 0, 0), (34, 0, 0, 0), (36, 0, 0, 0), (37, 146, 4134, 0), (40, 0, 0, 0), (43, 0, 0, 0), (44, 28, 4120, 0), (47, 0, 0, 0), (49, 0, 0, 0), (50, 0, 0, 0), (51, 0, 0, 0), (54, 0, 0, 0), (55, 0, 0, 0), (56, 146, 4134, 0), (59, 0, 0, 0), (60, 0, 0, 0), (61, 149, 4135, 0), (64, 0, 0, 0), (65, 0, 0, 0), (67, 0, 0, 0), (69, 178, 5147, 0), (72, 0, 0, 0), (74, 0, 0, 0), (75, 0, 0, 0), (76, 0, 0, 0), (77, 182, 5127, 0), (80, 0, 0, 0), (82, 0, 0, 0), (84, 0, 0, 0), (86, 0, 0, 0), (89, 0, 0, 0), (90, 0, 0, 0), (91, 0, 0, 0), (92, 182, 5127, 0), (95, 0, 0, 0), (98, 0, 0, 0), (99, 0, 0, 0), (100, 0, 0, 0), (103, 182, 5127, 0), (106, 0, 0, 0), (108, 0, 0, 0), (109, 146, 4134, 0), (112, 0, 0, 0), (115, 0, 0, 0), (116, 0, 0, 0), (117, 0, 0, 0), (118, 0, 0, 0), (119, 0, 0, 0), (120, 28, 4120, 0), (123, 0, 0, 0), (125, 0, 0, 0), (126, 185, 5151, 0), (129, 0, 0, 0), (131, 0, 0, 0), (132, 31, 4121, 0), (135, 0, 0, 0), (137, 0, 0, 0), (139, 0, 0, 0), (140, 0, 0, 0), (141, 34, 4122, 0), (144, 0, 0, 0), (146, 0, 0, 0), (148, 0, 0, 0), (149, 0, 0, 0), (150, 37, 4123, 0), (153, 0, 0, 0), (155, 0, 0, 0), (157, 0, 0, 0), (158, 0, 0, 0), (159, 28, 4120, 0), (162, 0, 0, 0), (164, 0, 0, 0), (165, 0, 0, 0), (166, 0, 0, 0), (167, 0, 0, 0), (168, 0, 0, 0), (169, 0, 0, 0)]
def ab_x79 : List (Nat × Nat × Nat × Nat) := [(0, 0, 0, 0), (1, 0, 0, 0), (2, 0, 0, 0), (3, 166, 4068, 0), (6, 0, 0, 0), (7, 0, 0, 0), (8, 0, 0, 0), (9, 0, 0, 0), (11, 0, 0, 0), (14, 0, 0, 0), (15, 0, 0, 0), (16, 155, 5104, 0), (19, 0, 0, 0), (20, 0, 0, 0), (21, 19, 4117, 0), (24, 0, 0, 0), (25, 0, 0, 0), (26, 0, 0, 0), (27, 166, 4068, 0), (30, 170, 5139, 0), (33, 0, 0, 0), (34, 0, 0, 0), (35, 0, 0, 0), (37, 178, 5147, 0), (40, 0, 0, 0), (41, 0, 0, 0), (42, 0, 0, 0), (43, 0, 0, 0), (44, 182, 5127, 0), (47, 0, 0, 0), (48, 0, 0, 0), (49, 146, 4134, 0), (52, 0, 0, 0), (55, 0, 0, 0), (56, 0, 0, 0), (57, 22, 4118, 0), (60, 0, 0, 0), (61, 0, 0, 0), (62, 0, 0, 0), (63, 0, 0, 0), (64, 25, 4119, 0), (67, 0, 0, 0), (68, 0, 0, 0), (69, 0, 0, 0), (70, 0, 0, 0), (71, 0, 0, 0), (72, 0, 0, 0), (73, 0, 0, 0), (74, 166, 4068, 0), (77, 0, 0, 0), (78, 0, 0, 0), (79, 174, 4060, 0), (82, 0, 0, 0)]
def ab_x80 : List (Nat × Nat × Nat × Nat) := [(0, 0, 0, 0), (1, 189, 4126, 0), (4, 0, 0, 0), (7, 0, 0, 0), (8, 0, 0, 0), (9, 155, 5104, 0), (12, 0, 0, 0), (13, 0, 0, 0), (14, 189, 4126, 0), (17, 0, 0, 0), (18, 159, 5112, 0), (21, 0, 0, 0), (22, 0, 0, 0), (23, 0, 0, 0), (24, 0, 0, 0), (25, 0, 0, 0), (28, 182, 5127, 0), (31, 174, 4060, 0), (34, 0, 0, 0), (35, 0, 0, 0), (36, 0, 0, 0), (37, 0, 0, 0), (38, 0, 0, 0), (40, 182, 5127, 0), (43, 174, 4060, 0), (46, 0, 0, 0)]
def ab_x81 : List (Nat × Nat × Nat × Nat) := [(0, 0, 0, 0), (1, 193, 4127, 0), (4, 0, 0, 0), (7, 0, 0, 0), (8, 0, 0, 0), (9, 155, 5104, 0), (12, 0, 0, 0), (13, 0, 0, 0), (14, 193, 4127, 0), (17, 0, 0, 0), (18, 159, 5112, 0), (21, 0, 0, 0), (22, 0, 0, 0), (23, 0, 0, 0), (24, 0, 0, 0), (25, 134, 5099, 9), (27, 182, 5127, 0), (30, 174, 4060, 0), (33, 0, 0, 0)]
def ab_x82 : List (Nat × Nat × Nat × Nat) := [(0, 0, 0, 0), (1, 0, 0, 0), (2, 166, 4068, 0), (5, 0, 0, 0), (8, 0, 0, 0), (9, 0, 0, 0), (12, 0, 0, 0), (13, 40, 4124, 0), (16, 0, 0, 0), (18, 0, 0, 0), (19, 0, 0, 0), (20, 166, 4068, 0), (23, 0, 0, 0), (24, 0, 0, 0), (26, 0, 0, 0), (27, 0, 0, 0), (28, 0, 0, 0), (29, 0, 0, 0), (30, 0, 0, 0)]
def ab_x83 : List (Nat × Nat × Nat × Nat) := [(0, 0, 0, 0), (2, 0, 0, 0), (3, 0, 0, 0), (4, 166, 4068, 0), (7, 0, 0, 0), (8, 0, 0, 0), (9, 0, 0, 0), (10, 0, 0, 0), (11, 166, 4068, 0), (14, 0, 0, 0), (16, 0, 0, 0), (19, 0, 0, 0), (20, 0, 0, 0), (21, 155, 5104, 0), (24, 0, 0, 0), (25, 159, 5112, 0), (28, 0, 0, 0), (29, 196, 5116, 0), (32, 0, 0, 0), (33, 0, 0, 0), (34, 159, 5112, 0), (37, 0, 0, 0), (38, 0, 0, 0), (40, 0, 0, 0), (43, 0, 0, 0), (44, 196, 5116, 0), (47, 0, 0, 0), (50, 0, 0, 0), (52, 0, 0, 0), (54, 0, 0, 0), (55, 146, 4134, 0), (58, 0, 0, 0), (61, 0, 0, 0), (63, 0, 0, 0), (64, 0, 0, 0), (67, 0, 0, 0), (68, 0, 0, 0), (69, 155, 5104, 0), (72, 0, 0, 0), (73, 0, 0, 0), (75, 0, 0, 0), (78, 0, 0, 0), (79, 159, 5112, 0), (82, 0, 0, 0), (83, 0, 0, 0), (84, 199, 5123, 0), (87, 0, 0, 0), (90, 182, 5127, 0), (93, 0, 0, 0), (95, 0, 0, 0), (96, 0, 0, 0), (97, 0, 0, 0), (98, 182, 5127, 0), (101, 0, 0, 0), (103, 0, 0, 0), (104, 0, 0, 0), (105, 134, 5099, 9), (107, 182, 5127, 0), (110, 0, 0, 0), (112, 0, 0, 0), (114, 0, 0, 0), (115, 0, 0, 0), (118, 0, 0, 0), (119, 0, 0, 0), (120, 134, 5099, 9), (122, 182, 5127, 0), (125, 0, 0, 0), (128, 0, 0, 0), (129, 0, 0, 0), (131, 0, 0, 0), (133, 0, 0, 0), (134, 0, 0, 0), (137, 0, 0, 0), (138, 0, 0, 0), (139, 134, 5099, 9), (141, 182, 5127, 0), (144, 0, 0, 0), (147, 0, 0, 0), (148, 0, 0, 0), (150, 0, 0, 0), (151, 146, 4134, 0), (154, 0, 0, 0), (157, 0, 0, 0), (158, 0, 0, 0), (159, 40, 4124, 0), (162, 0, 0, 0), (163, 0, 0, 0), (164, 0, 0, 0), (165, 0, 0, 0), (166, 0, 0, 0), (167, 0, 0, 0), (168, 40, 4124, 0), (171, 0, 0, 0), (172, 0, 0, 0), (173, 0, 0, 0), (174, 0, 0, 0), (175, 0, 0, 0), (176, 0, 0, 0), (177, 40, 4124, 0), (180, 0, 0, 0), (181, 0, 0, 0), (182, 0, 0, 0), (183, 0, 0, 0), (185, 0, 0, 0), (186, 0, 0, 0), (187, 40, 4124, 0), (190, 0, 0, 0), (191, 0, 0, 0), (192, 0, 0, 0), (193, 0, 0, 0), (195, 0, 0, 0), (196, 0, 0, 0), (197, 40, 4124, 0), (200, 0, 0, 0), (201, 0, 0, 0), (202, 0, 0, 0), (203, 0, 0, 0), (205, 0, 0, 0), (206, 0, 0, 0), (207, 40, 4124, 0), (210, 0, 0, 0), (211, 0, 0, 0), (212, 0, 0, 0), (213, 0, 0, 0), (215, 0, 0, 0), (216, 0, 0, 0), (217, 40, 4124, 0), (220, 0, 0, 0), (221, 0, 0, 0), (222, 0, 0, 0), (223, 0, 0, 0), (224, 0, 0, 0), (225, 0, 0, 0), (227, 0, 0, 0), (228, 0, 0, 0), (229, 40, 4124, 0), (232, 0, 0, 0), (233, 0, 0, 0), (234, 0, 0, 0), (235, 0, 0, 0), (236, 0, 0, 0), (237, 0, 0, 0), (239, 0, 0, 0), (240, 0, 0, 0), (241, 43, 4125, 0), (244, 0, 0, 0), (245, 0, 0, 0), (246, 166, 4068, 0), (249, 0, 0, 0), (251, 0, 0, 0), (252, 0, 0, 0), (253, 0, 0, 0), (254, 0, 0, 0), (255, 0, 0, 0), (256, 166, 4068, 0), (259, 0, 0, 0), (260, 0, 0, 0), (261, 174, 4060, 0), (264, 0, 0, 0)]
def ab_x84 : List (Nat × Nat × Nat × Nat) := [(0, 0, 0, 0), (2, 0, 0, 0), (3, 0, 0, 0), (4, 166, 4068, 0), (7, 0, 0, 0), (8, 0, 0, 0), (9, 0, 0, 0), (10, 0, 0, 0), (11, 166, 4068, 0), (14, 0, 0, 0), (16, 0, 0, 0), (19, 0, 0, 0), (20, 0, 0, 0), (21, 155, 5104, 0), (24, 0, 0, 0), (25, 159, 5112, 0), (28, 0, 0, 0), (29, 146, 4134, 0), (32, 0, 0, 0), (35, 0, 0, 0), (36, 0, 0, 0), (37, 115, 4132, 0), (40, 0, 0, 0), (41, 0, 0, 0), (44, 0, 0, 0), (45, 0, 0, 0), (46, 155, 5104, 0), (49, 0, 0, 0), (52, 0, 0, 0), (53, 125, 4133, 0), (56, 0, 0, 0), (57, 0, 0, 0), (58, 166, 4068, 0), (61, 0, 0, 0), (64, 0, 0, 0), (65, 40, 4124, 0), (68, 0, 0, 0), (70, 0, 0, 0), (71, 125, 4133, 0), (74, 0, 0, 0), (75, 0, 0, 0), (76, 0, 0, 0), (77, 0, 0, 0), (78, 0, 0, 0), (80, 0, 0, 0), (83, 0, 0, 0), (84, 0, 0, 0), (85, 155, 5104, 0), (88, 0, 0, 0), (91, 0, 0, 0), (92, 43, 4125, 0), (95, 0, 0, 0), (96, 125, 4133, 0), (99, 0, 0, 0), (100, 0, 0, 0), (102, 0, 0, 0), (105, 0, 0, 0), (106, 0, 0, 0), (107, 155, 5104, 0), (110, 0, 0, 0), (111, 146, 4134, 0), (114, 0, 0, 0), (117, 0, 0, 0), (118, 125, 4133, 0), (121, 0, 0, 0), (124, 0, 0, 0), (125, 0, 0, 0), (126, 0, 0, 0), (127, 159, 5112, 0), (130, 0, 0, 0), (131, 0, 0, 0), (132, 199, 5123, 0), (135, 0, 0, 0), (138, 182, 5127, 0), (141, 0, 0, 0), (142, 0, 0, 0), (143, 146, 4134, 0), (146, 0, 0, 0), (149, 0, 0, 0), (150, 0, 0, 0), (151, 40, 4124, 0), (154, 0, 0, 0), (155, 0, 0, 0), (156, 0, 0, 0), (157, 0, 0, 0), (159, 0, 0, 0), (160, 0, 0, 0), (161, 40, 4124, 0), (164, 0, 0, 0), (165, 0, 0, 0), (166, 0, 0, 0), (167, 0, 0, 0), (169, 0, 0, 0), (170, 0, 0, 0), (171, 40, 4124, 0), (174, 0, 0, 0), (175, 0, 0, 0), (176, 0, 0, 0), (177, 0, 0, 0), (178, 0, 0, 0), (179, 0, 0, 0), (180, 40, 4124, 0), (183, 0, 0, 0), (184, 0, 0, 0), (185, 0, 0, 0), (186, 0, 0, 0), (187, 0, 0, 0), (188, 0, 0, 0), (189, 40, 4124, 0), (192, 0, 0, 0), (193, 0, 0, 0), (194, 0, 0, 0), (195, 0, 0, 0), (196, 0, 0, 0), (197, 0, 0, 0), (198, 0, 0, 0), (200, 0, 0, 0), (202, 0, 0, 0), (203, 0, 0, 0), (206, 0, 0, 0), (207, 40, 4124, 0), (210, 0, 0, 0), (211, 0, 0, 0), (212, 0, 0, 0), (213, 0, 0, 0), (215, 0, 0, 0), (216, 0, 0, 0), (217, 0, 0, 0), (218, 0, 0, 0), (221, 0, 0, 0), (224, 0, 0, 0), (225, 43, 4125, 0), (228, 0, 0, 0), (229, 0, 0, 0), (230, 0, 0, 0), (231, 166, 4068, 0), (234, 0, 0, 0), (235, 0, 0, 0), (236, 43, 4125, 0), (239, 0, 0, 0), (240, 0, 0, 0), (241, 166, 4068, 0), (244, 0, 0, 0), (246, 0, 0, 0), (247, 0, 0, 0), (248, 0, 0, 0), (249, 0, 0, 0), (250, 0, 0, 0), (251, 166, 4068, 0), (254, 0, 0, 0), (255, 0, 0, 0), (256, 174, 4060, 0), (259, 0, 0, 0)]
def ab_x85 : List (Nat × Nat × Nat × Nat) := [(0, 0, 0, 0), (1, 115, 4132, 0), (4, 0, 0, 0), (7, 0, 0, 0), (8, 125, 4133, 0), (11, 0, 0, 0), (13, 0, 0, 0), (16, 0, 0, 0), (17, 125, 4133, 0), (20, 0, 0, 0), (22, 0, 0, 0), (25, 0, 0, 0), (26, 0, 0, 0), (27, 155, 5104, 0), (30, 0, 0, 0), (33, 0, 0, 0), (34, 125, 4133, 0), (37, 0, 0, 0), (39, 0, 0, 0), (42, 0, 0, 0), (43, 0, 0, 0), (44, 125, 4133, 0), (47, 202, 5108, 0), (50, 0, 0, 0), (53, 0, 0, 0), (54, 125, 4133, 0), (57, 0, 0, 0), (59, 0, 0, 0), (62, 0, 0, 0), (63, 205, 5131, 0), (66, 0, 0, 0), (69, 0, 0, 0), (70, 125, 4133, 0), (73, 0, 0, 0), (75, 0, 0, 0), (78, 0, 0, 0), (79, 208, 5135, 0), (82, 0, 0, 0), (85, 0, 0, 0), (86, 125, 4133, 0), (89, 0, 0, 0), (91, 0, 0, 0), (94, 0, 0, 0), (95, 211, 5143, 0), (98, 0, 0, 0), (101, 0, 0, 0), (102, 125, 4133, 0), (105, 0, 0, 0), (107, 0, 0, 0), (110, 0, 0, 0), (111, 214, 5154, 0), (114, 0, 0, 0), (117, 0, 0, 0), (118, 125, 4133, 0), (121, 0, 0, 0), (123, 0, 0, 0), (126, 0, 0, 0), (127, 217, 5158, 0), (130, 0, 0, 0), (133, 0, 0, 0), (134, 220, 5162, 0), (137, 0, 0, 0), (138, 146, 4134, 0), (141, 0, 0, 0), (144, 0, 0, 0), (145, 115, 4132, 0), (148, 0, 0, 0), (149, 0, 0, 0), (152, 0, 0, 0), (153, 0, 0, 0), (154, 155, 5104, 0), (157, 0, 0, 0), (158, 159, 5112, 0), (161, 0, 0, 0), (162, 0, 0, 0), (163, 223, 4128, 0), (166, 0, 0, 0), (167, 0, 0, 0), (168, 223, 4128, 0), (171, 0, 0, 0)]
def ab_x86 : List (Nat × Nat × Nat × Nat) := [(0, 0, 0, 0), (1, 0, 0, 0), (2, 0, 0, 0), (3, 0, 0, 0), (5, 0, 0, 0), (8, 0, 0, 0), (9, 0, 0, 0), (10, 0, 0, 0), (11, 174, 4060, 0), (14, 0, 0, 0), (17, 0, 0, 0), (20, 0, 0, 0), (21, 0, 0, 0), (22, 0, 0, 0), (24, 174, 4060, 0), (27, 0, 0, 0), (28, 0, 0, 0), (29, 0, 0, 0), (30, 174, 4060, 0), (33, 0, 0, 0), (34, 0, 0, 0), (35, 0, 0, 0), (36, 0, 0, 0), (38, 0, 0, 0), (41, 0, 0, 0), (42, 28, 4120, 0), (45, 0, 0, 0), (47, 0, 0, 0), (48, 0, 0, 0), (49, 0, 0, 0), (50, 0, 0, 0), (51, 0, 0, 0), (54, 0, 0, 0), (57, 0, 0, 0), (58, 0, 0, 0), (59, 189, 4126, 0), (62, 0, 0, 0), (63, 0, 0, 0), (64, 193, 4127, 0), (67, 0, 0, 0)]
def ab_x87 : List (Nat × Nat × Nat × Nat) := [(0, 0, 0, 0), (1, 0, 0, 0), (2, 105, 4129, 0), (5, 0, 0, 0), (6, 0, 0, 0), (7, 102, 4130, 0), (10, 0, 0, 0), (11, 0, 0, 0), (12, 146, 4134, 0), (15, 0, 0, 0), (16, 0, 0, 0), (17, 223, 4128, 0), (20, 0, 0, 0), (21, 87, 4056, 0), (24, 0, 0, 0), (25, 152, 5028, 0), (28, 0, 0, 0), (29, 146, 4134, 0), (32, 0, 0, 0), (35, 0, 0, 0), (36, 115, 4132, 0), (39, 0, 0, 0), (40, 0, 0, 0), (43, 0, 0, 0), (44, 226, 5100, 0), (47, 0, 0, 0), (50, 0, 0, 0)]
def ab_x88 : List (Nat × Nat × Nat × Nat) := [(0, 0, 0, 0), (1, 0, 0, 0), (2, 0, 0, 0), (3, 0, 0, 0), (5, 0, 0, 0), (8, 0, 0, 0), (9, 13, 4115, 0), (12, 0, 0, 0), (13, 0, 0, 0), (14, 0, 0, 0), (15, 166, 4068, 0), (18, 0, 0, 0), (19, 0, 0, 0), (22, 0, 0, 0), (25, 0, 0, 0), (26, 0, 0, 0), (27, 0, 0, 0), (28, 0, 0, 0), (30, 0, 0, 0), (33, 0, 0, 0), (34, 16, 4116, 0), (37, 0, 0, 0), (38, 0, 0, 0), (39, 16, 4116, 0), (42, 0, 0, 0), (44, 0, 0, 0), (45, 0, 0, 0), (46, 0, 0, 0), (47, 0, 0, 0), (48, 0, 0, 0), (51, 0, 0, 0), (54, 0, 0, 0), (55, 0, 0, 0), (56, 0, 0, 0), (57, 0, 0, 0), (58, 0, 0, 0), (61, 0, 0, 0), (62, 19, 4117, 0), (65, 0, 0, 0), (66, 0, 0, 0), (67, 19, 4117, 0), (70, 0, 0, 0), (71, 0, 0, 0), (72, 0, 0, 0), (73, 0, 0, 0), (74, 0, 0, 0), (75, 0, 0, 0), (76, 22, 4118, 0), (79, 0, 0, 0), (80, 0, 0, 0), (81, 22, 4118, 0), (84, 0, 0, 0), (85, 0, 0, 0), (86, 0, 0, 0), (87, 0, 0, 0), (88, 0, 0, 0), (89, 0, 0, 0), (90, 25, 4119, 0), (93, 0, 0, 0), (94, 0, 0, 0), (95, 25, 4119, 0), (98, 0, 0, 0), (99, 0, 0, 0), (100, 0, 0, 0), (101, 0, 0, 0), (102, 0, 0, 0), (103, 0, 0, 0), (106, 0, 0, 0), (109, 0, 0, 0), (110, 0, 0, 0), (111, 0, 0, 0), (112, 0, 0, 0), (114, 0, 0, 0), (117, 0, 0, 0), (118, 28, 4120, 0), (121, 0, 0, 0), (122, 0, 0, 0), (123, 28, 4120, 0), (126, 0, 0, 0), (128, 0, 0, 0), (129, 0, 0, 0), (130, 0, 0, 0), (131, 0, 0, 0), (132, 0, 0, 0), (135, 0, 0, 0), (138, 0, 0, 0), (139, 0, 0, 0), (140, 0, 0, 0), (141, 0, 0, 0), (143, 0, 0, 0), (146, 0, 0, 0), (147, 31, 4121, 0), (150, 0, 0, 0), (151, 0, 0, 0), (152, 31, 4121, 0), (155, 0, 0, 0), (157, 0, 0, 0), (158, 0, 0, 0), (159, 0, 0, 0), (160, 0, 0, 0), (161, 0, 0, 0), (162, 34, 4122, 0), (165, 0, 0, 0), (166, 0, 0, 0), (167, 34, 4122, 0), (170, 0, 0, 0), (172, 0, 0, 0), (173, 0, 0, 0), (174, 0, 0, 0), (175, 0, 0, 0), (176, 0, 0, 0), (177, 37, 4123, 0), (180, 0, 0, 0), (181, 0, 0, 0), (182, 37, 4123, 0), (185, 0, 0, 0), (187, 0, 0, 0), (188, 0, 0, 0), (189, 0, 0, 0), (190, 0, 0, 0), (191, 0, 0, 0), (194, 0, 0, 0), (197, 0, 0, 0)]
def ab_x89 : List (Nat × Nat × Nat × Nat) := [(0, 0, 0, 0), (1, 0, 0, 0), (2, 96, 4112, 0), (5, 0, 0, 0), (6, 0, 0, 0), (9, 0, 0, 0), (10, 0, 0, 0), (11, 99, 4114, 0), (14, 0, 0, 0), (17, 0, 0, 0), (19, 0, 0, 0), (20, 0, 0, 0), (21, 0, 0, 0), (22, 229, 5024, 0), (25, 0, 0, 0), (26, 0, 0, 0), (27, 99, 4114, 0), (30, 0, 0, 0), (31, 0, 0, 0), (32, 146, 4134, 0), (35, 232, 4136, 0), (38, 0, 0, 0), (39, 0, 0, 0), (40, 146, 4134, 0), (43, 0, 0, 0), (46, 0, 0, 0), (47, 0, 0, 0), (50, 0, 0, 0), (51, 149, 4135, 0), (54, 46, 4137, 0), (57, 0, 0, 0), (58, 146, 4134, 0), (61, 0, 0, 0), (64, 0, 0, 0), (65, 0, 0, 0), (66, 0, 0, 0), (67, 90, 4064, 0), (70, 0, 0, 0), (71, 93, 4072, 0), (74, 0, 0, 0), (75, 0, 0, 0), (76, 235, 4142, 0), (79, 0, 0, 0), (80, 0, 0, 0), (81, 238, 4143, 0), (84, 0, 0, 0), (85, 223, 4128, 0), (88, 0, 0, 0)]
def ab_x90 : List (Nat × Nat × Nat × Nat) := [(0, 0, 0, 0), (1, 0, 0, 0), (2, 96, 4112, 0), (5, 0, 0, 0), (6, 0, 0, 0), (9, 0, 0, 0), (10, 232, 4136, 0), (13, 0, 0, 0), (16, 0, 0, 0), (17, 0, 0, 0), (18, 0, 0, 0), (21, 0, 0, 0), (22, 46, 4137, 0), (25, 0, 0, 0), (28, 0, 0, 0), (29, 0, 0, 0)]
def ab_x91 : List (Nat × Nat × Nat × Nat) := [(0, 0, 0, 0), (1, 13, 4115, 0), (4, 0, 0, 0), (5, 0, 0, 0), (6, 0, 0, 0)]
def ab_x92 : List (Nat × Nat × Nat × Nat) := [(0, 0, 0, 0), (1, 13, 4115, 0), (4, 0, 0, 0), (5, 0, 0, 0), (6, 0, 0, 0)]
def ab_x93 : List (Nat × Nat × Nat × Nat) := [(0, 0, 0, 0), (1, 0, 0, 0), (2, 96, 4112, 0), (5, 0, 0, 0), (6, 0, 0, 0), (9, 0, 0, 0), (10, 16, 4116, 0), (13, 0, 0, 0), (14, 0, 0, 0), (15, 241, 5174, 0), (18, 0, 0, 0), (19, 162, 5120, 0), (22, 0, 0, 0), (25, 0, 0, 0), (26, 0, 0, 0), (27, 0, 0, 0), (30, 0, 0, 0), (31, 19, 4117, 0), (34, 0, 0, 0), (35, 0, 0, 0), (36, 244, 5178, 0), (39, 0, 0, 0), (40, 162, 5120, 0), (43, 0, 0, 0), (46, 0, 0, 0), (47, 0, 0, 0)]
def ab_x94 : List (Nat × Nat × Nat × Nat) := [(0, 0, 0, 0), (1, 0, 0, 0), (3, 0, 0, 0), (5, 0, 0, 0), (8, 0, 0, 0), (11, 0, 0, 0), (12, 0, 0, 0), (13, 0, 0, 0), (15, 0, 0, 0), (16, 0, 0, 0), (17, 0, 0, 0), (18, 0, 0, 0), (20, 0, 0, 0), (21, 0, 0, 0), (22, 0, 0, 0), (23, 0, 0, 0), (26, 0, 0, 0), (29, 0, 0, 0)]
def ab_x95 : List (Nat × Nat × Nat × Nat) := [(0, 0, 0, 0), (1, 50, 4138, 0), (4, 0, 0, 0), (7, 0, 0, 0), (8, 0, 0, 0)]
def ab_x96 : List (Nat × Nat × Nat × Nat) := [(0, 0, 0, 0), (1, 0, 0, 0), (2, 0, 0, 0), (3, 0, 0, 0), (6, 0, 0, 0), (9, 0, 0, 0), (10, 50, 4138, 0), (13, 0, 0, 0), (14, 0, 0, 0), (15, 0, 0, 0), (16, 0, 0, 0), (19, 0, 0, 0), (22, 0, 0, 0), (23, 50, 4138, 0), (26, 0, 0, 0), (29, 0, 0, 0), (30, 13, 4115, 0), (33, 0, 0, 0), (34, 0, 0, 0), (35, 0, 0, 0), (36, 0, 0, 0), (37, 50, 4138, 0), (40, 0, 0, 0), (43, 0, 0, 0), (44, 13, 4115, 0), (47, 0, 0, 0), (48, 0, 0, 0), (49, 0, 0, 0), (50, 0, 0, 0), (51, 0, 0, 0), (52, 0, 0, 0), (53, 0, 0, 0), (54, 13, 4115, 0), (57, 0, 0, 0), (58, 0, 0, 0), (59, 0, 0, 0), (62, 0, 0, 0), (64, 0, 0, 0), (65, 0, 0, 0), (66, 0, 0, 0), (67, 0, 0, 0), (68, 0, 0, 0), (69, 40, 4124, 0), (72, 0, 0, 0), (73, 0, 0, 0), (74, 0, 0, 0), (75, 0, 0, 0), (76, 0, 0, 0), (77, 40, 4124, 0), (80, 0, 0, 0), (81, 0, 0, 0), (82, 0, 0, 0), (83, 0, 0, 0), (84, 0, 0, 0), (85, 40, 4124, 0), (88, 0, 0, 0), (89, 0, 0, 0), (90, 0, 0, 0), (91, 0, 0, 0), (92, 0, 0, 0), (93, 40, 4124, 0), (96, 0, 0, 0), (97, 0, 0, 0), (98, 0, 0, 0), (99, 0, 0, 0), (100, 0, 0, 0), (101, 40, 4124, 0), (104, 0, 0, 0), (105, 0, 0, 0), (106, 0, 0, 0), (107, 0, 0, 0), (108, 247, 4076, 0), (111, 0, 0, 0), (112, 0, 0, 0), (113, 0, 0, 0), (114, 0, 0, 0), (115, 0, 0, 0), (118, 0, 0, 0), (119, 50, 4138, 0), (122, 0, 0, 0), (124, 0, 0, 0), (125, 0, 0, 0), (126, 0, 0, 0), (127, 0, 0, 0), (128, 0, 0, 0), (129, 0, 0, 0), (130, 0, 0, 0), (131, 40, 4124, 0), (134, 0, 0, 0), (135, 0, 0, 0), (136, 0, 0, 0), (137, 0, 0, 0), (138, 0, 0, 0), (139, 0, 0, 0), (140, 0, 0, 0), (141, 0, 0, 0), (144, 0, 0, 0), (147, 0, 0, 0), (150, 0, 0, 0), (153, 0, 0, 0)]
def ab_x97 : List (Nat × Nat × Nat × Nat) := [(0, 0, 0, 0), (1, 235, 4142, 0), (4, 0, 0, 0), (6, 0, 0, 0), (9, 0, 0, 0), (10, 0, 0, 0), (11, 0, 0, 0), (12, 0, 0, 0), (15, 0, 0, 0), (18, 0, 0, 0), (19, 59, 4141, 0), (22, 0, 0, 0), (23, 0, 0, 0), (24, 59, 4141, 0), (27, 0, 0, 0), (30, 0, 0, 0), (31, 0, 0, 0), (32, 0, 0, 0), (33, 0, 0, 0), (34, 0, 0, 0), (37, 0, 0, 0), (40, 0, 0, 0), (41, 0, 0, 0), (42, 235, 4142, 0), (45, 0, 0, 0), (46, 0, 0, 0), (47, 235, 4142, 0), (50, 0, 0, 0), (51, 50, 4138, 0), (54, 0, 0, 0), (55, 0, 0, 0), (56, 59, 4141, 0), (59, 0, 0, 0), (62, 0, 0, 0), (63, 235, 4142, 0), (66, 0, 0, 0), (67, 251, 5186, 0), (70, 0, 0, 0), (71, 0, 0, 0), (72, 235, 4142, 0), (75, 0, 0, 0), (76, 0, 0, 0), (77, 235, 4142, 0), (80, 0, 0, 0)]
def ab_x98 : List (Nat × Nat × Nat × Nat) := [(0, 0, 0, 0), (1, 0, 0, 0), (2, 96, 4112, 0), (5, 0, 0, 0), (6, 235, 4142, 0), (9, 0, 0, 0), (12, 0, 0, 0), (13, 0, 0, 0), (14, 0, 0, 0), (15, 0, 0, 0), (16, 235, 4142, 0), (19, 0, 0, 0), (20, 0, 0, 0), (21, 235, 4142, 0), (24, 0, 0, 0), (25, 59, 4141, 0), (28, 0, 0, 0), (31, 0, 0, 0), (32, 235, 4142, 0), (35, 0, 0, 0), (36, 0, 0, 0), (37, 50, 4138, 0), (40, 0, 0, 0), (41, 251, 5186, 0), (44, 0, 0, 0), (45, 235, 4142, 0), (48, 0, 0, 0)]
def ab_x99 : List (Nat × Nat × Nat × Nat) := [(0, 0, 0, 0), (1, 0, 0, 0), (2, 96, 4112, 0), (5, 0, 0, 0), (6, 50, 4138, 0), (9, 0, 0, 0), (10, 0, 0, 0), (11, 56, 4140, 0), (14, 0, 0, 0), (15, 251, 5186, 0), (18, 0, 0, 0), (19, 0, 0, 0), (20, 238, 4143, 0), (23, 0, 0, 0), (24, 255, 4080, 0), (27, 0, 0, 0)]
def ab_x100 : List (Nat × Nat × Nat × Nat) := [(0, 0, 0, 0), (1, 0, 0, 0), (2, 96, 4112, 0), (5, 0, 0, 0), (6, 238, 4143, 0), (9, 0, 0, 0), (12, 0, 0, 0), (13, 0, 0, 0), (14, 0, 0, 0), (15, 56, 4140, 0), (18, 0, 0, 0), (19, 0, 0, 0), (20, 50, 4138, 0), (23, 0, 0, 0), (24, 251, 5186, 0), (27, 0, 0, 0), (28, 0, 0, 0), (29, 235, 4142, 0), (32, 0, 0, 0), (33, 255, 4080, 0), (36, 0, 0, 0)]
def ab_x101 : List (Nat × Nat × Nat × Nat) := [(0, 0, 0, 0), (1, 50, 4138, 0), (4, 0, 0, 0), (6, 0, 0, 0), (7, 0, 0, 0), (8, 0, 0, 0), (9, 0, 0, 0), (10, 0, 0, 0), (11, 0, 0, 0), (13, 0, 0, 0), (16, 0, 0, 0), (17, 0, 0, 0), (20, 0, 0, 0), (21, 0, 0, 0)]
def ab_x102 : List (Nat × Nat × Nat × Nat) := [(0, 0, 0, 0), (1, 50, 4138, 0), (4, 0, 0, 0), (6, 0, 0, 0), (7, 0, 0, 0), (8, 0, 0, 0), (10, 0, 0, 0), (11, 0, 0, 0), (12, 0, 0, 0), (15, 0, 0, 0), (16, 0, 0, 0), (19, 0, 0, 0), (20, 0, 0, 0)]
def ab_x103 : List (Nat × Nat × Nat × Nat) := [(0, 0, 0, 0), (1, 0, 0, 0), (2, 258, 4104, 0), (5, 0, 0, 0), (8, 0, 0, 0), (9, 0, 0, 0), (12, 0, 0, 0), (13, 0, 0, 0), (14, 50, 4138, 0), (17, 0, 0, 0), (19, 0, 0, 0), (20, 0, 0, 0), (21, 0, 0, 0), (22, 0, 0, 0), (23, 0, 0, 0), (24, 0, 0, 0), (25, 0, 0, 0)]
def ab_x104 : List (Nat × Nat × Nat × Nat) := [(0, 0, 0, 0), (1, 0, 0, 0), (2, 0, 0, 0), (3, 0, 0, 0), (5, 0, 0, 0), (7, 0, 0, 0), (8, 0, 0, 0), (11, 0, 0, 0), (12, 0, 0, 0), (13, 0, 0, 0), (15, 261, 4100, 0), (18, 0, 0, 0), (19, 0, 0, 0), (20, 0, 0, 0), (23, 0, 0, 0), (26, 0, 0, 0), (27, 0, 0, 0)]
def ab_x105 : List (Nat × Nat × Nat × Nat) := [(0, 0, 0, 0), (1, 0, 0, 0), (4, 0, 0, 0), (5, 0, 0, 0), (8, 0, 0, 0), (9, 50, 4138, 0), (12, 0, 0, 0), (15, 0, 0, 0), (16, 0, 0, 0), (17, 0, 0, 0), (18, 0, 0, 0)]
def ab_x106 : List (Nat × Nat × Nat × Nat) := [(0, 0, 0, 0), (1, 50, 4138, 0), (4, 0, 0, 0), (7, 0, 0, 0), (8, 0, 0, 0), (9, 0, 0, 0), (10, 0, 0, 0), (11, 0, 0, 0), (12, 0, 0, 0), (13, 0, 0, 0), (14, 0, 0, 0), (15, 0, 0, 0), (16, 50, 4138, 0), (19, 0, 0, 0), (22, 0, 0, 0), (23, 0, 0, 0), (26, 0, 0, 0), (27, 50, 4138, 0), (30, 0, 0, 0), (33, 0, 0, 0), (34, 0, 0, 0), (35, 0, 0, 0), (36, 50, 4138, 0), (39, 0, 0, 0), (42, 0, 0, 0), (43, 0, 0, 0), (44, 0, 0, 0), (45, 0, 0, 0), (46, 0, 0, 0), (47, 0, 0, 0), (48, 0, 0, 0), (51, 0, 0, 0), (54, 0, 0, 0)]
def ab_x107 : List (Nat × Nat × Nat × Nat) := [(0, 0, 0, 0), (1, 0, 0, 0), (2, 0, 0, 0), (3, 50, 4138, 0), (6, 0, 0, 0), (9, 0, 0, 0), (10, 0, 0, 0), (11, 0, 0, 0), (12, 264, 4088, 0), (15, 0, 0, 0), (16, 267, 4096, 0), (19, 0, 0, 0), (20, 50, 4138, 0), (23, 0, 0, 0), (26, 0, 0, 0), (27, 0, 0, 0), (30, 0, 0, 0), (31, 0, 0, 0), (32, 50, 4138, 0), (35, 0, 0, 0), (38, 0, 0, 0), (39, 50, 4138, 0), (42, 0, 0, 0), (45, 0, 0, 0), (46, 0, 0, 0), (47, 0, 0, 0), (48, 0, 0, 0), (49, 0, 0, 0), (50, 50, 4138, 0), (53, 0, 0, 0), (56, 0, 0, 0), (57, 0, 0, 0), (58, 0, 0, 0), (59, 0, 0, 0), (60, 0, 0, 0), (61, 0, 0, 0), (62, 0, 0, 0), (63, 270, 4144, 0), (66, 0, 0, 0), (67, 0, 0, 0), (68, 270, 4144, 0), (71, 0, 0, 0), (72, 50, 4138, 0), (75, 0, 0, 0), (78, 0, 0, 0), (79, 0, 0, 0), (80, 50, 4138, 0), (83, 0, 0, 0), (86, 0, 0, 0), (87, 0, 0, 0), (90, 0, 0, 0), (91, 0, 0, 0), (92, 0, 0, 0), (93, 0, 0, 0), (94, 0, 0, 0), (95, 0, 0, 0), (96, 0, 0, 0), (97, 50, 4138, 0), (100, 0, 0, 0), (103, 0, 0, 0), (104, 0, 0, 0), (105, 0, 0, 0), (106, 0, 0, 0), (109, 0, 0, 0), (110, 0, 0, 0), (111, 0, 0, 0), (112, 0, 0, 0), (113, 0, 0, 0), (114, 264, 4088, 0), (117, 0, 0, 0), (118, 0, 0, 0), (119, 0, 0, 0), (120, 0, 0, 0), (121, 264, 4088, 0), (124, 267, 4096, 0), (127, 0, 0, 0), (128, 0, 0, 0), (129, 0, 0, 0), (130, 0, 0, 0), (131, 0, 0, 0), (132, 264, 4088, 0), (135, 0, 0, 0), (136, 0, 0, 0), (137, 0, 0, 0), (138, 0, 0, 0), (139, 264, 4088, 0), (142, 267, 4096, 0), (145, 0, 0, 0), (148, 0, 0, 0), (149, 0, 0, 0), (150, 0, 0, 0), (153, 0, 0, 0), (156, 0, 0, 0), (157, 0, 0, 0), (158, 273, 4108, 0), (161, 0, 0, 0)]
def ab_x108 : List (Nat × Nat × Nat × Nat) := [(0, 0, 0, 0), (1, 50, 4138, 0), (4, 0, 0, 0), (7, 0, 0, 0), (8, 0, 0, 0), (11, 0, 0, 0), (12, 0, 0, 0), (13, 50, 4138, 0), (16, 0, 0, 0), (19, 0, 0, 0), (20, 0, 0, 0), (21, 0, 0, 0), (22, 264, 4088, 0), (25, 0, 0, 0), (26, 0, 0, 0), (29, 0, 0, 0), (30, 50, 4138, 0), (33, 0, 0, 0), (36, 0, 0, 0), (37, 0, 0, 0), (38, 0, 0, 0), (39, 0, 0, 0), (40, 0, 0, 0), (41, 0, 0, 0), (44, 0, 0, 0)]
def ab_x109 : List (Nat × Nat × Nat × Nat) := [(0, 0, 0, 0), (1, 255, 4080, 0), (4, 0, 0, 0), (6, 0, 0, 0), (7, 50, 4138, 0), (10, 0, 0, 0), (12, 0, 0, 0), (14, 0, 0, 0), (15, 0, 0, 0), (16, 0, 0, 0), (17, 0, 0, 0), (18, 0, 0, 0), (19, 0, 0, 0), (20, 50, 4138, 0), (23, 0, 0, 0), (25, 0, 0, 0), (27, 0, 0, 0), (28, 0, 0, 0), (29, 0, 0, 0), (30, 0, 0, 0), (31, 0, 0, 0), (32, 0, 0, 0), (33, 50, 4138, 0), (36, 0, 0, 0), (38, 0, 0, 0), (40, 0, 0, 0), (41, 0, 0, 0), (42, 0, 0, 0), (43, 0, 0, 0), (44, 0, 0, 0), (45, 0, 0, 0), (46, 50, 4138, 0), (49, 0, 0, 0), (51, 0, 0, 0), (53, 0, 0, 0), (54, 0, 0, 0), (55, 0, 0, 0), (56, 0, 0, 0), (58, 0, 0, 0), (59, 0, 0, 0), (60, 50, 4138, 0), (63, 0, 0, 0), (65, 0, 0, 0), (67, 0, 0, 0), (68, 0, 0, 0), (69, 0, 0, 0), (70, 0, 0, 0), (72, 0, 0, 0), (73, 0, 0, 0), (74, 50, 4138, 0), (77, 0, 0, 0), (79, 0, 0, 0), (81, 0, 0, 0), (82, 0, 0, 0), (84, 0, 0, 0), (85, 0, 0, 0), (86, 0, 0, 0), (87, 0, 0, 0), (88, 0, 0, 0), (90, 0, 0, 0), (92, 0, 0, 0), (93, 0, 0, 0), (96, 0, 0, 0), (97, 50, 4138, 0), (100, 0, 0, 0), (102, 0, 0, 0), (104, 0, 0, 0), (105, 0, 0, 0), (106, 0, 0, 0), (107, 0, 0, 0), (109, 0, 0, 0), (110, 0, 0, 0), (111, 0, 0, 0), (112, 0, 0, 0), (115, 0, 0, 0), (118, 0, 0, 0), (119, 0, 0, 0), (121, 0, 0, 0), (124, 0, 0, 0), (125, 50, 4138, 0), (128, 0, 0, 0), (130, 0, 0, 0), (131, 0, 0, 0), (132, 0, 0, 0), (134, 0, 0, 0), (135, 0, 0, 0), (137, 0, 0, 0), (138, 0, 0, 0), (139, 0, 0, 0), (140, 0, 0, 0), (141, 0, 0, 0), (142, 276, 4084, 0), (145, 0, 0, 0), (146, 50, 4138, 0), (149, 0, 0, 0), (152, 0, 0, 0), (153, 0, 0, 0), (154, 0, 0, 0), (155, 0, 0, 0), (156, 0, 0, 0), (157, 0, 0, 0), (158, 0, 0, 0), (159, 50, 4138, 0), (162, 0, 0, 0), (165, 0, 0, 0), (166, 279, 4092, 0), (169, 0, 0, 0)]
def ab_x110 : List (Nat × Nat × Nat × Nat) := [(0, 0, 0, 0), (1, 50, 4138, 0), (4, 0, 0, 0), (6, 0, 0, 0), (7, 0, 0, 0), (8, 0, 0, 0), (9, 0, 0, 0), (10, 0, 0, 0), (11, 0, 0, 0), (12, 0, 0, 0), (13, 0, 0, 0), (14, 0, 0, 0), (15, 0, 0, 0), (16, 0, 0, 0), (19, 0, 0, 0), (20, 62, 4145, 0), (23, 0, 0, 0), (24, 0, 0, 0), (25, 50, 4138, 0), (28, 0, 0, 0), (30, 0, 0, 0), (31, 0, 0, 0), (32, 0, 0, 0), (33, 0, 0, 0), (34, 0, 0, 0), (35, 0, 0, 0), (36, 0, 0, 0), (37, 0, 0, 0), (38, 0, 0, 0), (41, 0, 0, 0), (44, 0, 0, 0), (45, 50, 4138, 0), (48, 0, 0, 0), (50, 0, 0, 0), (51, 0, 0, 0), (52, 0, 0, 0), (53, 0, 0, 0), (54, 0, 0, 0), (55, 0, 0, 0), (56, 0, 0, 0), (57, 0, 0, 0), (58, 0, 0, 0), (61, 0, 0, 0), (62, 0, 0, 0), (63, 65, 4146, 0), (66, 0, 0, 0), (69, 0, 0, 0), (70, 0, 0, 0), (71, 282, 4147, 0), (74, 0, 0, 0), (77, 0, 0, 0), (78, 0, 0, 0), (81, 0, 0, 0), (82, 28, 4120, 0), (85, 0, 0, 0), (86, 0, 0, 0), (87, 0, 0, 0), (88, 0, 0, 0), (89, 0, 0, 0), (90, 0, 0, 0), (91, 0, 0, 0), (92, 0, 0, 0), (93, 0, 0, 0), (95, 0, 0, 0), (96, 0, 0, 0), (98, 0, 0, 0), (100, 0, 0, 0), (102, 0, 0, 0), (105, 0, 0, 0), (106, 0, 0, 0), (107, 0, 0, 0), (108, 0, 0, 0), (109, 0, 0, 0), (111, 185, 5151, 0), (114, 285, 6012, 0), (117, 0, 0, 0), (120, 0, 0, 0), (121, 0, 0, 0), (122, 0, 0, 0), (125, 0, 0, 0), (128, 0, 0, 0), (131, 0, 0, 0), (134, 0, 0, 0), (135, 0, 0, 0)]
def ab_x111 : List (Nat × Nat × Nat × Nat) := [(0, 0, 0, 0), (1, 34, 4122, 0), (4, 0, 0, 0), (5, 0, 0, 0), (6, 0, 0, 0), (7, 0, 0, 0), (8, 0, 0, 0), (9, 0, 0, 0), (10, 37, 4123, 0), (13, 0, 0, 0), (14, 0, 0, 0), (15, 0, 0, 0), (16, 0, 0, 0), (17, 31, 4121, 0), (20, 0, 0, 0), (21, 0, 0, 0), (22, 0, 0, 0), (24, 0, 0, 0), (25, 0, 0, 0), (52, 0, 0, 0), (53, 62, 4145, 0), (56, 0, 0, 0), (57, 0, 0, 0), (58, 0, 0, 0), (59, 0, 0, 0), (62, 0, 0, 0), (63, 62, 4145, 0), (66, 0, 0, 0), (67, 0, 0, 0), (68, 0, 0, 0), (69, 0, 0, 0), (70, 0, 0, 0), (71, 0, 0, 0), (72, 0, 0, 0), (75, 0, 0, 0), (76, 62, 4145, 0), (79, 0, 0, 0), (80, 0, 0, 0), (81, 0, 0, 0), (82, 0, 0, 0), (83, 0, 0, 0), (84, 0, 0, 0), (85, 0, 0, 0), (88, 0, 0, 0), (89, 62, 4145, 0), (92, 0, 0, 0), (93, 0, 0, 0), (94, 62, 4145, 0), (97, 0, 0, 0), (98, 0, 0, 0), (99, 0, 0, 0), (100, 0, 0, 0), (101, 0, 0, 0), (102, 0, 0, 0), (103, 62, 4145, 0), (106, 0, 0, 0), (107, 0, 0, 0), (108, 288, 6016, 9), (111, 0, 0, 0), (114, 0, 0, 0), (115, 62, 4145, 0), (118, 0, 0, 0), (119, 0, 0, 0), (120, 288, 6016, 9), (123, 0, 0, 0), (126, 0, 0, 0), (127, 62, 4145, 0), (130, 0, 0, 0), (131, 0, 0, 0), (132, 288, 6016, 9), (135, 0, 0, 0), (138, 0, 0, 0), (139, 0, 0, 0), (142, 0, 0, 0), (143, 0, 0, 0)]
def ab_x112 : List (Nat × Nat × Nat × Nat) := [(0, 0, 0, 0), (2, 0, 0, 0), (5, 0, 0, 0), (6, 0, 0, 0), (7, 0, 0, 0), (8, 0, 0, 0), (11, 0, 0, 0), (12, 77, 4151, 0), (15, 0, 0, 0), (16, 0, 0, 0), (17, 0, 0, 0), (20, 0, 0, 0), (23, 0, 0, 0), (24, 77, 4151, 0), (27, 0, 0, 0), (28, 0, 0, 0), (29, 0, 0, 0), (32, 0, 0, 0), (33, 0, 0, 0), (34, 0, 0, 0), (35, 0, 0, 0), (37, 0, 0, 0), (40, 0, 0, 0), (41, 77, 4151, 0), (44, 0, 0, 0), (45, 0, 0, 0), (46, 0, 0, 0), (49, 0, 0, 0), (50, 0, 0, 0), (51, 0, 0, 0), (52, 0, 0, 0), (54, 0, 0, 0), (55, 0, 0, 0), (88, 0, 0, 0), (89, 68, 4148, 0), (92, 0, 0, 0), (93, 0, 0, 0), (94, 0, 0, 0), (95, 62, 4145, 0), (98, 0, 0, 0), (99, 0, 0, 0), (100, 0, 0, 0), (101, 0, 0, 0), (102, 62, 4145, 0), (105, 0, 0, 0), (106, 0, 0, 0), (107, 0, 0, 0), (108, 0, 0, 0), (109, 71, 4149, 0), (112, 0, 0, 0), (113, 0, 0, 0), (114, 0, 0, 0), (115, 0, 0, 0), (116, 74, 4150, 0), (119, 0, 0, 0), (120, 0, 0, 0), (121, 0, 0, 0), (122, 0, 0, 0), (125, 0, 0, 0), (126, 0, 0, 0), (129, 0, 0, 0), (130, 0, 0, 0), (132, 0, 0, 0), (135, 0, 0, 0), (136, 71, 4149, 0), (139, 0, 0, 0), (140, 0, 0, 0), (141, 0, 0, 0), (142, 62, 4145, 0), (145, 0, 0, 0), (146, 0, 0, 0), (147, 0, 0, 0), (148, 0, 0, 0), (149, 68, 4148, 0), (152, 0, 0, 0), (153, 0, 0, 0), (154, 0, 0, 0), (157, 0, 0, 0), (158, 0, 0, 0), (161, 0, 0, 0), (162, 0, 0, 0), (164, 0, 0, 0), (167, 0, 0, 0), (168, 71, 4149, 0), (171, 0, 0, 0), (172, 0, 0, 0), (173, 0, 0, 0), (174, 62, 4145, 0), (177, 0, 0, 0), (178, 0, 0, 0), (179, 0, 0, 0), (182, 0, 0, 0), (183, 0, 0, 0), (186, 0, 0, 0), (187, 0, 0, 0), (189, 0, 0, 0), (192, 0, 0, 0), (193, 68, 4148, 0), (196, 0, 0, 0), (197, 0, 0, 0), (198, 0, 0, 0), (201, 0, 0, 0), (202, 71, 4149, 0), (205, 0, 0, 0), (206, 0, 0, 0), (207, 0, 0, 0), (210, 0, 0, 0), (211, 0, 0, 0), (214, 0, 0, 0), (215, 0, 0, 0), (217, 0, 0, 0), (220, 0, 0, 0), (222, 0, 0, 0), (225, 0, 0, 0), (226, 0, 0, 0), (229, 0, 0, 0), (230, 0, 0, 0)]
def ab_x113 : List (Nat × Nat × Nat × Nat) := [(0, 0, 0, 0), (1, 0, 0, 0), (40, 0, 0, 0), (41, 77, 4151, 0), (44, 0, 0, 0), (45, 0, 0, 0), (46, 0, 0, 0), (47, 0, 0, 0), (48, 68, 4148, 0), (51, 0, 0, 0), (52, 0, 0, 0), (53, 0, 0, 0), (54, 0, 0, 0), (55, 71, 4149, 0), (58, 0, 0, 0), (59, 0, 0, 0), (60, 0, 0, 0), (61, 0, 0, 0), (62, 74, 4150, 0), (65, 0, 0, 0), (66, 0, 0, 0), (67, 62, 4145, 0), (70, 0, 0, 0), (71, 0, 0, 0), (72, 0, 0, 0), (73, 0, 0, 0), (76, 0, 0, 0), (77, 68, 4148, 0), (80, 0, 0, 0), (81, 0, 0, 0), (82, 0, 0, 0), (83, 0, 0, 0), (84, 62, 4145, 0), (87, 0, 0, 0), (88, 0, 0, 0), (89, 0, 0, 0), (90, 62, 4145, 0), (93, 0, 0, 0), (94, 0, 0, 0), (95, 0, 0, 0), (96, 0, 0, 0), (97, 0, 0, 0), (98, 0, 0, 0), (101, 0, 0, 0), (102, 68, 4148, 0), (105, 0, 0, 0), (106, 0, 0, 0), (107, 0, 0, 0), (108, 0, 0, 0), (109, 62, 4145, 0), (112, 0, 0, 0), (113, 0, 0, 0), (114, 0, 0, 0), (115, 62, 4145, 0), (118, 0, 0, 0), (119, 0, 0, 0), (120, 0, 0, 0), (121, 0, 0, 0), (122, 0, 0, 0), (123, 0, 0, 0), (126, 0, 0, 0), (127, 71, 4149, 0), (130, 0, 0, 0), (131, 0, 0, 0), (132, 0, 0, 0), (133, 0, 0, 0), (134, 62, 4145, 0), (137, 0, 0, 0), (138, 0, 0, 0), (139, 0, 0, 0), (140, 0, 0, 0), (141, 0, 0, 0), (144, 0, 0, 0), (145, 71, 4149, 0), (148, 0, 0, 0), (149, 0, 0, 0), (150, 0, 0, 0), (151, 0, 0, 0), (152, 62, 4145, 0), (155, 0, 0, 0), (156, 0, 0, 0), (157, 0, 0, 0), (158, 0, 0, 0), (159, 0, 0, 0), (162, 0, 0, 0), (163, 77, 4151, 0), (166, 0, 0, 0), (167, 0, 0, 0), (168, 0, 0, 0), (169, 0, 0, 0), (172, 0, 0, 0), (173, 68, 4148, 0), (176, 0, 0, 0), (177, 0, 0, 0), (178, 0, 0, 0), (179, 0, 0, 0), (180, 62, 4145, 0), (183, 0, 0, 0), (184, 0, 0, 0), (185, 0, 0, 0), (186, 62, 4145, 0), (189, 0, 0, 0), (190, 0, 0, 0), (191, 0, 0, 0), (192, 0, 0, 0), (193, 0, 0, 0), (194, 0, 0, 0), (195, 68, 4148, 0), (198, 0, 0, 0), (199, 0, 0, 0), (200, 0, 0, 0), (201, 0, 0, 0), (202, 62, 4145, 0), (205, 0, 0, 0), (206, 0, 0, 0), (207, 0, 0, 0), (208, 0, 0, 0), (209, 0, 0, 0)]
def ab_x114 : List (Nat × Nat × Nat × Nat) := [(0, 0, 0, 0), (1, 0, 0, 0), (3, 0, 0, 0), (5, 0, 0, 0), (7, 0, 0, 0), (10, 0, 0, 0), (11, 68, 4148, 0), (14, 0, 0, 0), (16, 0, 0, 0), (17, 0, 0, 0), (18, 0, 0, 0), (19, 71, 4149, 0), (22, 0, 0, 0), (24, 0, 0, 0), (25, 0, 0, 0), (26, 0, 0, 0), (27, 74, 4150, 0), (30, 0, 0, 0), (32, 0, 0, 0), (33, 0, 0, 0), (34, 0, 0, 0), (35, 77, 4151, 0), (38, 0, 0, 0), (40, 0, 0, 0), (41, 0, 0, 0), (42, 0, 0, 0), (45, 0, 0, 0), (48, 0, 0, 0), (49, 0, 0, 0), (51, 289, 4153, 0), (54, 0, 0, 0), (55, 0, 0, 0), (56, 292, 4154, 0), (59, 0, 0, 0), (60, 0, 0, 0), (62, 295, 4155, 0), (65, 0, 0, 0), (66, 0, 0, 0), (68, 0, 0, 0), (70, 0, 0, 0), (71, 0, 0, 0), (74, 0, 0, 0), (76, 0, 0, 0), (78, 0, 0, 0), (79, 0, 0, 0), (81, 0, 0, 0), (82, 81, 4152, 0), (85, 0, 0, 0), (87, 0, 0, 0), (88, 0, 0, 0), (89, 0, 0, 0), (90, 0, 0, 0), (92, 258, 4104, 0), (95, 0, 0, 0), (98, 0, 0, 0), (100, 0, 0, 0), (101, 0, 0, 0), (104, 0, 0, 0), (105, 0, 0, 0), (107, 298, 5232, 0), (110, 0, 0, 0), (113, 0, 0, 0), (114, 50, 4138, 0), (117, 0, 0, 0), (119, 0, 0, 0), (121, 0, 0, 0), (122, 0, 0, 0), (123, 0, 0, 0), (124, 0, 0, 0), (127, 0, 0, 0), (128, 0, 0, 0), (131, 0, 0, 0), (132, 0, 0, 0), (134, 0, 0, 0), (136, 0, 0, 0), (139, 0, 0, 0), (140, 0, 0, 0), (142, 301, 6008, 0), (145, 0, 0, 0), (147, 0, 0, 0), (148, 81, 4152, 0), (151, 0, 0, 0), (153, 0, 0, 0), (154, 0, 0, 0), (155, 50, 4138, 0), (158, 0, 0, 0), (160, 0, 0, 0), (161, 0, 0, 0), (162, 0, 0, 0), (163, 0, 0, 0), (164, 50, 4138, 0), (167, 0, 0, 0), (169, 0, 0, 0), (170, 0, 0, 0), (171, 0, 0, 0), (172, 0, 0, 0), (173, 50, 4138, 0), (176, 0, 0, 0), (178, 0, 0, 0), (179, 0, 0, 0), (180, 0, 0, 0), (181, 0, 0, 0), (183, 304, 6017, 0), (186, 0, 0, 0), (187, 0, 0, 0), (188, 81, 4152, 0), (191, 0, 0, 0), (193, 0, 0, 0), (194, 0, 0, 0), (197, 0, 0, 0), (198, 0, 0, 0), (199, 50, 4138, 0), (202, 0, 0, 0), (204, 0, 0, 0), (205, 0, 0, 0), (206, 0, 0, 0), (207, 0, 0, 0), (208, 50, 4138, 0), (211, 0, 0, 0), (213, 0, 0, 0), (214, 0, 0, 0), (215, 0, 0, 0), (216, 0, 0, 0), (217, 50, 4138, 0), (220, 0, 0, 0), (222, 0, 0, 0), (223, 0, 0, 0), (224, 0, 0, 0), (225, 308, 6021, 0), (228, 0, 0, 0), (230, 0, 0, 0), (231, 0, 0, 0), (234, 0, 0, 0), (237, 0, 0, 0), (238, 68, 4148, 0), (241, 0, 0, 0), (243, 0, 0, 0), (244, 0, 0, 0), (247, 0, 0, 0), (248, 289, 4153, 0), (251, 0, 0, 0), (253, 0, 0, 0), (256, 0, 0, 0), (257, 0, 0, 0), (259, 289, 4153, 0), (262, 0, 0, 0), (263, 68, 4148, 0), (266, 0, 0, 0), (268, 0, 0, 0), (269, 0, 0, 0), (270, 292, 4154, 0), (273, 0, 0, 0), (276, 0, 0, 0), (277, 0, 0, 0), (278, 68, 4148, 0), (281, 0, 0, 0), (283, 0, 0, 0), (284, 292, 4154, 0), (287, 0, 0, 0), (288, 0, 0, 0), (290, 295, 4155, 0), (293, 0, 0, 0), (296, 0, 0, 0), (299, 0, 0, 0)]
def ab_x115 : List (Nat × Nat × Nat × Nat) := [(0, 0, 0, 0), (1, 0, 0, 0), (2, 255, 4080, 0), (5, 0, 0, 0), (6, 0, 0, 0), (8, 0, 0, 0), (9, 312, 6004, 0), (12, 0, 0, 0)]
def ab_x116 : List (Nat × Nat × Nat × Nat) := [(0, 0, 0, 0), (1, 0, 0, 0), (2, 0, 0, 0), (3, 0, 0, 0), (4, 0, 0, 0), (5, 0, 0, 0), (6, 255, 4080, 0), (9, 0, 0, 0), (12, 0, 0, 0), (13, 0, 0, 0), (14, 81, 4152, 0), (17, 0, 0, 0), (18, 0, 0, 0), (19, 0, 0, 0), (22, 0, 0, 0), (23, 0, 0, 0), (26, 0, 0, 0), (27, 0, 0, 0), (28, 0, 0, 0), (29, 0, 0, 0), (32, 0, 0, 0), (35, 0, 0, 0), (36, 0, 0, 0)]
def ab_x117 : List (Nat × Nat × Nat × Nat) := [(0, 0, 0, 0), (1, 0, 0, 0), (4, 0, 0, 0), (5, 0, 0, 0), (6, 241, 5174, 0), (9, 0, 0, 0), (12, 0, 0, 0), (13, 0, 0, 0), (16, 0, 0, 0), (17, 0, 0, 0)]
def ab_x118 : List (Nat × Nat × Nat × Nat) := [(0, 0, 0, 0), (1, 0, 0, 0), (4, 0, 0, 0), (5, 0, 0, 0), (8, 0, 0, 0), (11, 0, 0, 0), (12, 0, 0, 0), (15, 0, 0, 0), (16, 0, 0, 0)]
def ab_x119 : List (Nat × Nat × Nat × Nat) := [(0, 0, 0, 0), (1, 0, 0, 0), (28, 0, 0, 0), (29, 68, 4148, 0), (32, 0, 0, 0), (33, 0, 0, 0), (34, 0, 0, 0), (35, 0, 0, 0), (36, 71, 4149, 0), (39, 0, 0, 0), (40, 0, 0, 0), (41, 0, 0, 0), (42, 0, 0, 0), (43, 74, 4150, 0), (46, 0, 0, 0), (47, 0, 0, 0), (48, 0, 0, 0), (49, 0, 0, 0), (50, 77, 4151, 0), (53, 0, 0, 0), (54, 0, 0, 0), (55, 0, 0, 0), (58, 0, 0, 0), (59, 0, 0, 0), (62, 0, 0, 0), (63, 0, 0, 0)]
def ab_x120 : List (Nat × Nat × Nat × Nat) := [(0, 0, 0, 0), (1, 0, 0, 0), (2, 0, 0, 0), (3, 0, 0, 0), (4, 255, 4080, 0), (7, 0, 0, 0), (10, 0, 0, 0), (11, 50, 4138, 0), (14, 0, 0, 0), (16, 0, 0, 0), (17, 0, 0, 0), (18, 0, 0, 0), (19, 0, 0, 0), (20, 0, 0, 0), (21, 0, 0, 0), (22, 0, 0, 0), (25, 0, 0, 0), (28, 0, 0, 0), (31, 0, 0, 0), (32, 0, 0, 0)]
def ab_x121 : List (Nat × Nat × Nat × Nat) := [(0, 0, 0, 0), (1, 255, 4080, 0), (4, 0, 0, 0), (7, 0, 0, 0), (8, 0, 0, 0), (11, 0, 0, 0), (12, 50, 4138, 0), (15, 0, 0, 0), (17, 0, 0, 0), (18, 255, 4080, 0), (21, 0, 0, 0), (22, 0, 0, 0), (23, 0, 0, 0), (24, 0, 0, 0), (25, 0, 0, 0), (26, 0, 0, 0), (27, 0, 0, 0)]
def ab_x122 : List (Nat × Nat × Nat × Nat) := [(0, 0, 0, 0), (1, 0, 0, 0), (3, 0, 0, 0), (6, 0, 0, 0), (7, 0, 0, 0), (10, 0, 0, 0), (11, 0, 0, 0), (13, 0, 0, 0), (14, 0, 0, 0), (17, 0, 0, 0), (18, 0, 0, 0), (20, 0, 0, 0), (23, 0, 0, 0), (24, 0, 0, 0), (25, 316, 5205, 0), (28, 0, 0, 0), (31, 0, 0, 0), (33, 0, 0, 0), (36, 0, 0, 0), (37, 0, 0, 0), (38, 316, 5205, 0), (41, 0, 0, 0), (44, 0, 0, 0), (45, 0, 0, 0), (46, 0, 0, 0), (49, 0, 0, 0), (50, 0, 0, 0), (51, 0, 0, 0), (53, 319, 5209, 0), (56, 0, 0, 0), (59, 0, 0, 0), (61, 0, 0, 0), (64, 0, 0, 0), (66, 134, 5099, 9), (68, 0, 0, 0), (71, 0, 0, 0), (73, 0, 0, 0), (76, 0, 0, 0), (78, 134, 5099, 9), (80, 0, 0, 0), (83, 0, 0, 0), (84, 0, 0, 0), (85, 0, 0, 0), (87, 0, 0, 0), (88, 322, 5212, 0), (91, 0, 0, 0), (94, 0, 0, 0), (96, 0, 0, 0), (97, 0, 0, 0), (98, 255, 4080, 0), (101, 0, 0, 0), (103, 0, 0, 0), (106, 0, 0, 0), (108, 0, 0, 0), (109, 0, 0, 0), (110, 325, 5216, 0), (113, 0, 0, 0), (114, 0, 0, 0), (115, 0, 0, 0), (116, 0, 0, 0), (118, 0, 0, 0), (121, 0, 0, 0), (122, 0, 0, 0), (125, 0, 0, 0), (127, 0, 0, 0), (129, 0, 0, 0), (131, 247, 4076, 0), (134, 0, 0, 0), (135, 255, 4080, 0), (138, 0, 0, 0), (139, 0, 0, 0), (140, 0, 0, 0), (142, 0, 0, 0), (143, 50, 4138, 0), (146, 0, 0, 0), (148, 0, 0, 0), (150, 0, 0, 0), (151, 0, 0, 0), (152, 0, 0, 0), (153, 0, 0, 0), (155, 0, 0, 0), (156, 0, 0, 0), (157, 50, 4138, 0), (160, 0, 0, 0), (162, 0, 0, 0), (164, 0, 0, 0), (165, 0, 0, 0), (166, 0, 0, 0), (167, 0, 0, 0), (168, 0, 0, 0), (169, 0, 0, 0), (171, 0, 0, 0), (172, 0, 0, 0), (174, 0, 0, 0)]
def ab_x123 : List (Nat × Nat × Nat × Nat) := [(0, 0, 0, 0), (1, 0, 0, 0), (2, 96, 4112, 0), (5, 0, 0, 0), (6, 0, 0, 0), (7, 0, 0, 0), (8, 0, 0, 0), (9, 0, 0, 0), (11, 0, 0, 0), (12, 0, 0, 0), (14, 0, 0, 0), (16, 328, 5201, 0), (19, 0, 0, 0)]
def ab_x124 : List (Nat × Nat × Nat × Nat) := [(0, 0, 0, 0), (1, 0, 0, 0), (2, 96, 4112, 0), (5, 0, 0, 0), (6, 0, 0, 0), (7, 0, 0, 0), (8, 0, 0, 0), (9, 0, 0, 0), (11, 0, 0, 0), (12, 0, 0, 0), (14, 0, 0, 0), (15, 328, 5201, 0), (18, 0, 0, 0)]
def ab_x125 : List (Nat × Nat × Nat × Nat) := [(0, 0, 0, 0), (1, 0, 0, 0), (4, 0, 0, 0), (5, 0, 0, 0), (6, 255, 4080, 0), (9, 0, 0, 0), (12, 0, 0, 0), (13, 0, 0, 0), (16, 0, 0, 0), (17, 0, 0, 0)]
def ab_x126 : List (Nat × Nat × Nat × Nat) := [(0, 0, 0, 0), (1, 0, 0, 0), (2, 96, 4112, 0), (5, 0, 0, 0), (6, 0, 0, 0), (7, 332, 5228, 0), (10, 0, 0, 0), (13, 0, 0, 0), (14, 319, 5209, 0), (17, 0, 0, 0), (20, 0, 0, 0), (21, 0, 0, 0), (22, 258, 4104, 0), (25, 0, 0, 0), (28, 0, 0, 0), (29, 0, 0, 0), (30, 298, 5232, 0), (33, 0, 0, 0), (36, 0, 0, 0), (37, 0, 0, 0), (38, 0, 0, 0), (39, 0, 0, 0), (40, 322, 5212, 0), (43, 0, 0, 0), (46, 0, 0, 0), (48, 0, 0, 0), (49, 0, 0, 0), (50, 255, 4080, 0), (53, 0, 0, 0), (55, 0, 0, 0), (58, 0, 0, 0), (60, 0, 0, 0), (61, 0, 0, 0), (62, 325, 5216, 0), (65, 0, 0, 0), (66, 0, 0, 0), (68, 0, 0, 0), (70, 0, 0, 0), (71, 0, 0, 0), (72, 0, 0, 0), (73, 247, 4076, 0), (76, 0, 0, 0), (77, 255, 4080, 0), (80, 0, 0, 0), (81, 0, 0, 0), (82, 0, 0, 0)]
def ab_x127 : List (Nat × Nat × Nat × Nat) := [(0, 0, 0, 0), (1, 0, 0, 0), (2, 96, 4112, 0), (5, 0, 0, 0), (6, 0, 0, 0), (7, 332, 5228, 0), (10, 0, 0, 0), (13, 0, 0, 0), (14, 0, 0, 0), (15, 96, 4112, 0), (18, 0, 0, 0), (19, 0, 0, 0), (20, 0, 0, 0), (22, 0, 0, 0), (23, 0, 0, 0), (24, 0, 0, 0), (25, 0, 0, 0), (26, 0, 0, 0), (72, 0, 0, 0), (73, 50, 4138, 0), (76, 0, 0, 0), (77, 0, 0, 0), (78, 0, 0, 0), (79, 0, 0, 0), (80, 0, 0, 0), (81, 0, 0, 0), (82, 50, 4138, 0), (85, 0, 0, 0), (86, 0, 0, 0), (87, 0, 0, 0), (88, 0, 0, 0), (89, 0, 0, 0), (90, 0, 0, 0), (91, 50, 4138, 0), (94, 0, 0, 0), (95, 0, 0, 0), (96, 0, 0, 0), (97, 0, 0, 0), (98, 0, 0, 0), (99, 0, 0, 0), (100, 50, 4138, 0), (103, 0, 0, 0), (104, 0, 0, 0), (105, 0, 0, 0), (106, 0, 0, 0), (107, 0, 0, 0), (108, 0, 0, 0), (109, 50, 4138, 0), (112, 0, 0, 0), (113, 0, 0, 0), (114, 0, 0, 0), (115, 0, 0, 0), (116, 0, 0, 0), (117, 0, 0, 0), (118, 335, 6000, 0), (121, 0, 0, 0), (122, 81, 4152, 0), (125, 0, 0, 0), (126, 0, 0, 0), (127, 0, 0, 0), (128, 0, 0, 0), (129, 0, 0, 0), (130, 298, 5232, 0), (133, 0, 0, 0), (136, 0, 0, 0), (137, 0, 0, 0), (140, 0, 0, 0), (141, 0, 0, 0), (142, 0, 0, 0), (143, 0, 0, 0), (144, 261, 4100, 0), (147, 0, 0, 0), (148, 0, 0, 0), (149, 0, 0, 0), (150, 96, 4112, 0), (153, 0, 0, 0), (154, 0, 0, 0)]
def ab_x128 : List (Nat × Nat × Nat × Nat) := [(0, 0, 0, 0), (1, 0, 0, 0), (2, 96, 4112, 0), (5, 0, 0, 0), (6, 0, 0, 0), (7, 332, 5228, 0), (10, 0, 0, 0), (13, 0, 0, 0), (14, 0, 0, 0), (15, 0, 0, 0), (18, 0, 0, 0), (19, 0, 0, 0), (20, 0, 0, 0), (23, 0, 0, 0), (24, 0, 0, 0), (25, 258, 4104, 0), (28, 0, 0, 0), (31, 0, 0, 0), (32, 0, 0, 0), (33, 0, 0, 0), (34, 0, 0, 0), (37, 0, 0, 0), (38, 50, 4138, 0), (41, 0, 0, 0), (43, 0, 0, 0), (44, 0, 0, 0), (45, 0, 0, 0), (46, 0, 0, 0), (47, 0, 0, 0), (48, 0, 0, 0), (49, 0, 0, 0), (50, 0, 0, 0), (51, 0, 0, 0), (52, 0, 0, 0), (53, 0, 0, 0), (54, 0, 0, 0), (55, 301, 6008, 0), (58, 0, 0, 0), (59, 0, 0, 0), (60, 62, 4145, 0), (63, 0, 0, 0), (64, 0, 0, 0), (65, 0, 0, 0), (66, 0, 0, 0), (67, 0, 0, 0)]
def ab_x129 : List (Nat × Nat × Nat × Nat) := [(0, 0, 0, 0), (1, 0, 0, 0), (4, 0, 0, 0), (5, 0, 0, 0), (6, 0, 0, 0), (9, 0, 0, 0), (10, 0, 0, 0), (13, 0, 0, 0), (14, 0, 0, 0)]
def ab_x130 : List (Nat × Nat × Nat × Nat) := [(0, 0, 0, 0), (1, 0, 0, 0), (2, 96, 4112, 0), (5, 0, 0, 0), (6, 0, 0, 0), (7, 316, 5205, 0), (10, 0, 0, 0), (13, 0, 0, 0), (14, 338, 6033, 0), (17, 0, 0, 0), (20, 341, 6036, 9), (23, 0, 0, 0), (24, 0, 0, 0), (25, 335, 6000, 0), (28, 0, 0, 0), (29, 0, 0, 0), (30, 0, 0, 0), (31, 342, 6037, 0), (34, 0, 0, 0)]
def ab_x131 : List (Nat × Nat × Nat × Nat) := [(0, 0, 0, 0), (1, 0, 0, 0), (2, 96, 4112, 0), (5, 0, 0, 0), (6, 319, 5209, 0), (9, 0, 0, 0), (12, 0, 0, 0), (13, 0, 0, 0), (14, 316, 5205, 0), (17, 0, 0, 0), (20, 0, 0, 0), (21, 338, 6033, 0), (24, 0, 0, 0), (27, 341, 6036, 9), (30, 0, 0, 0), (31, 0, 0, 0), (32, 0, 0, 0), (33, 0, 0, 0), (34, 345, 6045, 0), (37, 0, 0, 0), (38, 0, 0, 0), (40, 0, 0, 0), (41, 312, 6004, 0), (44, 0, 0, 0), (45, 0, 0, 0), (46, 0, 0, 0), (47, 342, 6037, 0), (50, 0, 0, 0)]
def ab_x132 : List (Nat × Nat × Nat × Nat) := [(0, 0, 0, 0), (1, 0, 0, 0), (2, 96, 4112, 0), (5, 0, 0, 0), (6, 319, 5209, 0), (9, 0, 0, 0), (12, 0, 0, 0), (13, 0, 0, 0), (14, 316, 5205, 0), (17, 0, 0, 0), (20, 0, 0, 0), (21, 338, 6033, 0), (24, 0, 0, 0), (27, 341, 6036, 9), (30, 0, 0, 0), (31, 0, 0, 0), (32, 0, 0, 0), (33, 345, 6045, 0), (36, 0, 0, 0), (38, 0, 0, 0), (39, 0, 0, 0), (41, 0, 0, 0), (42, 0, 0, 0), (44, 0, 0, 0), (45, 312, 6004, 0), (48, 0, 0, 0), (49, 0, 0, 0), (50, 0, 0, 0), (51, 342, 6037, 0), (54, 0, 0, 0)]
def ab_x133 : List (Nat × Nat × Nat × Nat) := [(0, 0, 0, 0), (1, 0, 0, 0), (2, 0, 0, 0), (3, 0, 0, 0), (4, 0, 0, 0), (5, 0, 0, 0), (6, 50, 4138, 0), (9, 0, 0, 0), (12, 0, 0, 0), (13, 0, 0, 0), (16, 0, 0, 0), (17, 0, 0, 0), (18, 264, 4088, 0), (21, 0, 0, 0), (22, 0, 0, 0), (25, 0, 0, 0), (26, 0, 0, 0), (27, 264, 4088, 0), (30, 0, 0, 0), (33, 0, 0, 0), (34, 0, 0, 0), (35, 0, 0, 0), (38, 0, 0, 0), (41, 0, 0, 0), (42, 0, 0, 0), (43, 0, 0, 0), (44, 267, 4096, 0), (47, 0, 0, 0)]
def ab_x134 : List (Nat × Nat × Nat × Nat) := [(0, 0, 0, 0), (1, 0, 0, 0), (2, 96, 4112, 0), (5, 0, 0, 0), (6, 0, 0, 0), (9, 0, 0, 0), (10, 0, 0, 0), (11, 255, 4080, 0), (14, 0, 0, 0), (17, 0, 0, 0), (18, 0, 0, 0), (19, 348, 6057, 0), (22, 0, 0, 0), (25, 0, 0, 0), (26, 0, 0, 0)]
def ab_x135 : List (Nat × Nat × Nat × Nat) := [(0, 0, 0, 0), (1, 0, 0, 0), (2, 96, 4112, 0), (5, 0, 0, 0), (6, 319, 5209, 0), (9, 0, 0, 0), (12, 0, 0, 0), (13, 0, 0, 0), (14, 0, 0, 0), (15, 345, 6045, 0), (18, 348, 6057, 0), (21, 0, 0, 0), (24, 0, 0, 0), (25, 0, 0, 0)]
def ab_x136 : List (Nat × Nat × Nat × Nat) := [(0, 0, 0, 0), (1, 0, 0, 0), (2, 96, 4112, 0), (5, 0, 0, 0), (6, 0, 0, 0), (9, 0, 0, 0), (10, 0, 0, 0), (13, 0, 0, 0), (14, 0, 0, 0), (15, 50, 4138, 0), (18, 0, 0, 0), (21, 0, 0, 0), (22, 0, 0, 0), (25, 0, 0, 0), (26, 0, 0, 0), (27, 264, 4088, 0), (30, 0, 0, 0), (33, 0, 0, 0), (35, 0, 0, 0)]
def ab_x137 : List (Nat × Nat × Nat × Nat) := [(0, 0, 0, 0), (1, 0, 0, 0), (2, 96, 4112, 0), (5, 0, 0, 0), (6, 0, 0, 0), (9, 0, 0, 0), (10, 0, 0, 0), (11, 50, 4138, 0), (14, 0, 0, 0), (17, 0, 0, 0), (18, 0, 0, 0), (21, 0, 0, 0), (22, 0, 0, 0), (23, 316, 5205, 0), (26, 0, 0, 0), (29, 0, 0, 0), (30, 338, 6033, 0), (33, 0, 0, 0), (36, 341, 6036, 9), (39, 0, 0, 0), (40, 0, 0, 0), (41, 0, 0, 0), (42, 0, 0, 0), (43, 264, 4088, 0), (46, 0, 0, 0), (47, 0, 0, 0), (49, 0, 0, 0), (50, 312, 6004, 0), (53, 0, 0, 0), (54, 0, 0, 0), (55, 0, 0, 0), (56, 342, 6037, 0), (59, 0, 0, 0)]
def ab_x138 : List (Nat × Nat × Nat × Nat) := [(0, 0, 0, 0), (1, 0, 0, 0), (2, 0, 0, 0), (3, 0, 0, 0), (4, 0, 0, 0), (5, 0, 0, 0), (6, 255, 4080, 0), (9, 0, 0, 0), (12, 0, 0, 0), (13, 0, 0, 0), (14, 348, 6057, 0), (17, 0, 0, 0), (19, 0, 0, 0), (20, 0, 0, 0), (21, 0, 0, 0), (24, 0, 0, 0), (25, 0, 0, 0), (26, 0, 0, 0), (27, 267, 4096, 0), (30, 0, 0, 0), (33, 0, 0, 0), (35, 0, 0, 0), (37, 0, 0, 0), (38, 0, 0, 0), (40, 0, 0, 0), (42, 0, 0, 0), (45, 0, 0, 0), (47, 0, 0, 0), (50, 0, 0, 0), (52, 0, 0, 0), (53, 0, 0, 0), (54, 0, 0, 0), (57, 0, 0, 0), (60, 0, 0, 0), (61, 0, 0, 0)]
def ab_x139 : List (Nat × Nat × Nat × Nat) := [(0, 0, 0, 0), (1, 0, 0, 0), (2, 96, 4112, 0), (5, 0, 0, 0), (6, 0, 0, 0), (9, 0, 0, 0), (10, 0, 0, 0), (11, 0, 0, 0), (14, 0, 0, 0), (15, 0, 0, 0), (16, 0, 0, 0), (17, 0, 0, 0), (18, 0, 0, 0), (19, 0, 0, 0), (20, 351, 6077, 0), (23, 0, 0, 0), (24, 0, 0, 0), (25, 0, 0, 0), (27, 0, 0, 0), (29, 0, 0, 0), (30, 255, 4080, 0), (33, 0, 0, 0), (36, 0, 0, 0), (37, 0, 0, 0), (39, 351, 6077, 0), (42, 0, 0, 0), (44, 0, 0, 0), (46, 0, 0, 0), (47, 0, 0, 0), (50, 0, 0, 0), (53, 0, 0, 0), (55, 0, 0, 0), (56, 0, 0, 0), (58, 0, 0, 0), (59, 0, 0, 0), (62, 0, 0, 0), (65, 0, 0, 0), (66, 0, 0, 0), (69, 0, 0, 0), (70, 0, 0, 0), (73, 0, 0, 0), (74, 0, 0, 0)]
def ab_x140 : List (Nat × Nat × Nat × Nat) := [(0, 0, 0, 0), (1, 0, 0, 0), (2, 96, 4112, 0), (5, 0, 0, 0), (6, 0, 0, 0), (7, 0, 0, 0), (10, 0, 0, 0), (11, 0, 0, 0), (14, 0, 0, 0), (17, 0, 0, 0), (18, 0, 0, 0), (21, 0, 0, 0), (22, 0, 0, 0), (24, 0, 0, 0), (27, 0, 0, 0), (28, 0, 0, 0), (29, 0, 0, 0), (30, 325, 5216, 0), (33, 0, 0, 0), (34, 50, 4138, 0), (37, 0, 0, 0), (40, 0, 0, 0), (41, 0, 0, 0), (42, 0, 0, 0), (43, 50, 4138, 0), (46, 0, 0, 0), (49, 0, 0, 0), (50, 0, 0, 0), (51, 0, 0, 0), (52, 50, 4138, 0), (55, 0, 0, 0), (58, 0, 0, 0), (59, 0, 0, 0), (60, 0, 0, 0), (61, 0, 0, 0), (62, 0, 0, 0), (63, 0, 0, 0), (64, 255, 4080, 0), (67, 0, 0, 0), (70, 0, 0, 0), (71, 0, 0, 0), (72, 258, 4104, 0), (75, 0, 0, 0), (78, 0, 0, 0), (79, 0, 0, 0), (80, 50, 4138, 0), (83, 0, 0, 0), (85, 0, 0, 0), (86, 0, 0, 0), (87, 0, 0, 0), (88, 0, 0, 0), (89, 0, 0, 0), (90, 276, 4084, 0), (93, 0, 0, 0), (94, 0, 0, 0), (95, 0, 0, 0), (96, 0, 0, 0), (97, 279, 4092, 0), (100, 0, 0, 0), (103, 0, 0, 0), (106, 0, 0, 0), (107, 50, 4138, 0), (110, 0, 0, 0), (113, 0, 0, 0), (114, 0, 0, 0)]
def ab_x141 : List (Nat × Nat × Nat × Nat) := [(0, 0, 0, 0), (1, 0, 0, 0), (2, 96, 4112, 0), (5, 0, 0, 0), (6, 0, 0, 0), (9, 0, 0, 0), (10, 0, 0, 0), (11, 0, 0, 0), (12, 335, 6000, 0), (15, 0, 0, 0), (16, 0, 0, 0), (17, 0, 0, 0), (18, 0, 0, 0), (19, 0, 0, 0), (20, 0, 0, 0), (21, 255, 4080, 0), (24, 0, 0, 0), (27, 0, 0, 0), (28, 81, 4152, 0), (31, 0, 0, 0), (32, 0, 0, 0), (33, 0, 0, 0), (36, 0, 0, 0), (39, 0, 0, 0), (40, 0, 0, 0), (43, 0, 0, 0), (44, 0, 0, 0), (45, 0, 0, 0), (48, 0, 0, 0), (51, 0, 0, 0), (54, 0, 0, 0), (56, 0, 0, 0)]
def ab_x142 : List (Nat × Nat × Nat × Nat) := [(0, 0, 0, 0), (1, 0, 0, 0), (2, 96, 4112, 0), (5, 0, 0, 0), (6, 0, 0, 0), (7, 332, 5228, 0), (10, 0, 0, 0), (13, 0, 0, 0), (14, 0, 0, 0), (15, 0, 0, 0), (16, 335, 6000, 0), (19, 0, 0, 0), (20, 81, 4152, 0), (23, 0, 0, 0), (24, 0, 0, 0), (25, 0, 0, 0), (28, 0, 0, 0), (29, 0, 0, 0), (30, 0, 0, 0), (31, 0, 0, 0), (32, 0, 0, 0), (33, 0, 0, 0), (34, 0, 0, 0), (37, 0, 0, 0), (38, 0, 0, 0), (39, 258, 4104, 0), (42, 0, 0, 0), (45, 0, 0, 0), (46, 0, 0, 0), (47, 298, 5232, 0), (50, 0, 0, 0), (53, 0, 0, 0), (56, 0, 0, 0), (57, 0, 0, 0), (58, 0, 0, 0), (59, 0, 0, 0), (60, 0, 0, 0), (61, 0, 0, 0), (63, 0, 0, 0), (64, 312, 6004, 0), (67, 0, 0, 0), (68, 81, 4152, 0), (71, 0, 0, 0), (72, 0, 0, 0), (73, 0, 0, 0), (76, 0, 0, 0), (77, 0, 0, 0), (78, 0, 0, 0), (81, 0, 0, 0), (84, 0, 0, 0), (86, 0, 0, 0)]
def ab_x143 : List (Nat × Nat × Nat × Nat) := [(0, 0, 0, 0), (1, 0, 0, 0), (2, 96, 4112, 0), (5, 0, 0, 0), (6, 0, 0, 0), (7, 332, 5228, 0), (10, 0, 0, 0), (13, 0, 0, 0), (14, 0, 0, 0), (15, 258, 4104, 0), (18, 0, 0, 0), (21, 0, 0, 0), (22, 0, 0, 0), (23, 316, 5205, 0), (26, 0, 0, 0), (29, 341, 6036, 9), (32, 0, 0, 0), (33, 0, 0, 0), (34, 0, 0, 0), (35, 255, 4080, 0), (38, 0, 0, 0), (39, 0, 0, 0), (41, 0, 0, 0), (42, 312, 6004, 0), (45, 0, 0, 0), (46, 68, 4148, 0), (49, 0, 0, 0), (50, 0, 0, 0), (51, 0, 0, 0)]
def ab_x144 : List (Nat × Nat × Nat × Nat) := [(0, 0, 0, 0), (1, 0, 0, 0), (2, 96, 4112, 0), (5, 0, 0, 0), (6, 0, 0, 0), (7, 332, 5228, 0), (10, 0, 0, 0), (13, 0, 0, 0), (14, 0, 0, 0), (15, 258, 4104, 0), (18, 0, 0, 0), (21, 0, 0, 0), (22, 0, 0, 0), (23, 0, 0, 0), (24, 335, 6000, 0), (27, 0, 0, 0), (28, 0, 0, 0), (29, 0, 0, 0), (30, 0, 0, 0), (31, 255, 4080, 0), (34, 0, 0, 0), (37, 0, 0, 0), (38, 84, 4156, 0), (41, 0, 0, 0), (42, 0, 0, 0), (43, 81, 4152, 0), (46, 0, 0, 0), (47, 0, 0, 0), (48, 0, 0, 0), (49, 0, 0, 0), (52, 0, 0, 0), (55, 0, 0, 0), (56, 0, 0, 0), (57, 255, 4080, 0), (60, 0, 0, 0), (61, 0, 0, 0), (63, 0, 0, 0), (64, 312, 6004, 0), (67, 0, 0, 0), (68, 0, 0, 0), (69, 0, 0, 0), (70, 0, 0, 0), (71, 0, 0, 0), (72, 0, 0, 0), (73, 255, 4080, 0), (76, 0, 0, 0), (79, 0, 0, 0), (80, 0, 0, 0), (81, 0, 0, 0), (82, 0, 0, 0), (85, 0, 0, 0), (86, 84, 4156, 0), (89, 0, 0, 0), (90, 0, 0, 0), (91, 0, 0, 0), (92, 81, 4152, 0), (95, 0, 0, 0), (96, 0, 0, 0), (97, 0, 0, 0), (100, 0, 0, 0), (101, 0, 0, 0), (104, 0, 0, 0), (105, 0, 0, 0), (106, 0, 0, 0), (107, 0, 0, 0), (110, 0, 0, 0), (113, 0, 0, 0), (114, 0, 0, 0)]
def ab_x145 : List (Nat × Nat × Nat × Nat) := [(0, 0, 0, 0), (1, 0, 0, 0), (2, 96, 4112, 0), (5, 0, 0, 0), (6, 0, 0, 0), (7, 316, 5205, 0), (10, 0, 0, 0), (13, 0, 0, 0), (14, 0, 0, 0), (15, 0, 0, 0), (16, 0, 0, 0), (17, 255, 4080, 0), (20, 0, 0, 0), (21, 0, 0, 0), (23, 0, 0, 0), (24, 312, 6004, 0), (27, 0, 0, 0), (28, 289, 4153, 0), (31, 0, 0, 0)]
def ab_x146 : List (Nat × Nat × Nat × Nat) := [(0, 0, 0, 0), (1, 0, 0, 0), (2, 96, 4112, 0), (5, 0, 0, 0), (6, 0, 0, 0), (7, 316, 5205, 0), (10, 0, 0, 0), (13, 0, 0, 0), (14, 0, 0, 0), (17, 0, 0, 0), (18, 0, 0, 0), (19, 0, 0, 0), (22, 341, 6036, 9), (25, 0, 0, 0), (26, 0, 0, 0), (27, 0, 0, 0), (28, 255, 4080, 0), (31, 0, 0, 0), (32, 0, 0, 0), (34, 0, 0, 0), (35, 312, 6004, 0), (38, 0, 0, 0), (39, 0, 0, 0), (42, 0, 0, 0), (43, 292, 4154, 0), (46, 0, 0, 0), (49, 0, 0, 0), (50, 295, 4155, 0), (53, 0, 0, 0)]
def ab_x147 : List (Nat × Nat × Nat × Nat) := [(0, 0, 0, 0), (1, 0, 0, 0), (2, 96, 4112, 0), (5, 0, 0, 0), (6, 0, 0, 0), (9, 0, 0, 0), (10, 0, 0, 0), (12, 0, 0, 0), (15, 0, 0, 0), (16, 0, 0, 0), (17, 0, 0, 0), (20, 0, 0, 0), (21, 0, 0, 0), (22, 0, 0, 0), (25, 0, 0, 0), (26, 0, 0, 0), (27, 0, 0, 0), (28, 0, 0, 0), (29, 65, 4146, 0), (32, 0, 0, 0), (33, 0, 0, 0), (34, 282, 4147, 0), (37, 0, 0, 0), (38, 335, 6000, 0), (41, 0, 0, 0), (42, 0, 0, 0), (43, 65, 4146, 0), (46, 0, 0, 0), (47, 354, 6113, 0), (50, 0, 0, 0)]
def ab_x148 : List (Nat × Nat × Nat × Nat) := [(0, 0, 0, 0), (1, 0, 0, 0), (4, 0, 0, 0), (5, 0, 0, 0), (6, 244, 5178, 0), (9, 0, 0, 0), (12, 0, 0, 0), (13, 0, 0, 0), (16, 0, 0, 0), (17, 0, 0, 0)]
def ab_x149 : List (Nat × Nat × Nat × Nat) := [(0, 0, 0, 0), (3, 0, 0, 0), (6, 0, 0, 0), (7, 0, 0, 0), (8, 0, 0, 0), (9, 0, 0, 0)]
def ab_x150 : List (Nat × Nat × Nat × Nat) := [(0, 0, 0, 0), (1, 0, 0, 0), (2, 258, 4104, 0), (5, 0, 0, 0), (8, 0, 0, 0), (9, 0, 0, 0), (10, 298, 5232, 0), (13, 0, 0, 0), (16, 0, 0, 0), (17, 50, 4138, 0), (20, 0, 0, 0), (22, 0, 0, 0), (23, 0, 0, 0), (24, 0, 0, 0), (25, 0, 0, 0), (26, 0, 0, 0), (27, 0, 0, 0), (28, 22, 4118, 0), (31, 0, 0, 0), (32, 0, 0, 0), (33, 0, 0, 0), (36, 0, 0, 0), (37, 81, 4152, 0), (40, 0, 0, 0), (41, 0, 0, 0), (42, 0, 0, 0), (45, 0, 0, 0), (46, 0, 0, 0), (47, 0, 0, 0), (48, 0, 0, 0), (49, 301, 6008, 0), (52, 0, 0, 0), (53, 0, 0, 0), (54, 62, 4145, 0), (57, 0, 0, 0), (58, 25, 4119, 0), (61, 0, 0, 0), (62, 0, 0, 0), (63, 0, 0, 0), (64, 0, 0, 0), (65, 0, 0, 0), (66, 0, 0, 0), (67, 0, 0, 0), (68, 0, 0, 0)]
def ab_x151 : List (Nat × Nat × Nat × Nat) := [(0, 0, 0, 0), (1, 357, 6125, 0), (4, 0, 0, 0), (5, 0, 0, 0), (6, 0, 0, 0), (7, 258, 4104, 0), (10, 0, 0, 0), (13, 0, 0, 0), (14, 0, 0, 0), (15, 0, 0, 0), (16, 360, 6132, 0), (19, 0, 0, 0), (21, 0, 0, 0), (22, 50, 4138, 0), (25, 0, 0, 0), (26, 0, 0, 0), (28, 0, 0, 0), (29, 0, 0, 0), (30, 0, 0, 0), (31, 0, 0, 0), (33, 0, 0, 0), (34, 0, 0, 0), (36, 0, 0, 0), (39, 0, 0, 0), (40, 50, 4138, 0), (43, 0, 0, 0), (44, 0, 0, 0), (45, 0, 0, 0), (46, 0, 0, 0), (47, 50, 4138, 0), (50, 0, 0, 0), (52, 0, 0, 0), (53, 0, 0, 0), (54, 0, 0, 0), (55, 0, 0, 0), (56, 0, 0, 0), (57, 0, 0, 0), (58, 0, 0, 0), (59, 0, 0, 0), (60, 0, 0, 0), (62, 0, 0, 0), (63, 0, 0, 0), (64, 0, 0, 0), (65, 0, 0, 0), (66, 0, 0, 0), (67, 0, 0, 0), (68, 50, 4138, 0), (71, 0, 0, 0), (73, 0, 0, 0), (74, 0, 0, 0), (75, 0, 0, 0), (76, 0, 0, 0), (77, 0, 0, 0), (78, 0, 0, 0), (80, 0, 0, 0), (81, 50, 4138, 0), (84, 0, 0, 0), (85, 0, 0, 0), (87, 0, 0, 0), (88, 0, 0, 0), (90, 0, 0, 0), (91, 0, 0, 0), (92, 0, 0, 0), (95, 0, 0, 0), (96, 0, 0, 0), (97, 50, 4138, 0), (100, 0, 0, 0), (101, 0, 0, 0), (102, 0, 0, 0), (103, 0, 0, 0), (104, 50, 4138, 0), (107, 0, 0, 0), (109, 0, 0, 0), (111, 0, 0, 0), (112, 0, 0, 0), (113, 0, 0, 0), (114, 0, 0, 0), (115, 0, 0, 0), (116, 0, 0, 0), (117, 0, 0, 0), (118, 0, 0, 0), (119, 50, 4138, 0), (122, 0, 0, 0), (123, 0, 0, 0), (125, 0, 0, 0), (126, 0, 0, 0), (128, 0, 0, 0), (129, 0, 0, 0), (130, 0, 0, 0), (131, 0, 0, 0), (132, 0, 0, 0), (133, 0, 0, 0), (134, 0, 0, 0), (135, 50, 4138, 0), (138, 0, 0, 0), (139, 0, 0, 0), (141, 0, 0, 0), (142, 0, 0, 0), (144, 0, 0, 0), (145, 0, 0, 0), (146, 0, 0, 0), (147, 0, 0, 0)]
def ab_x152 : List (Nat × Nat × Nat × Nat) := [(0, 0, 0, 0), (1, 0, 0, 0), (2, 96, 4112, 0), (5, 0, 0, 0), (6, 0, 0, 0), (7, 363, 6121, 0), (10, 0, 0, 0), (13, 0, 0, 0), (14, 0, 0, 0), (15, 0, 0, 0), (18, 0, 0, 0), (19, 0, 0, 0), (21, 0, 0, 0), (24, 0, 0, 0), (25, 0, 0, 0), (26, 0, 0, 0), (27, 357, 6125, 0), (30, 0, 0, 0), (31, 0, 0, 0), (32, 50, 4138, 0), (35, 0, 0, 0), (36, 0, 0, 0), (37, 0, 0, 0), (38, 0, 0, 0), (39, 0, 0, 0), (40, 255, 4080, 0), (43, 0, 0, 0), (46, 0, 0, 0), (48, 0, 0, 0), (49, 0, 0, 0), (50, 325, 5216, 0), (53, 0, 0, 0), (54, 335, 6000, 0), (57, 0, 0, 0), (58, 0, 0, 0), (60, 0, 0, 0), (62, 0, 0, 0), (63, 0, 0, 0), (66, 0, 0, 0), (67, 50, 4138, 0), (70, 0, 0, 0), (71, 0, 0, 0), (72, 0, 0, 0), (73, 0, 0, 0), (74, 0, 0, 0), (75, 255, 4080, 0), (78, 0, 0, 0), (81, 0, 0, 0), (82, 0, 0, 0), (83, 0, 0, 0), (84, 50, 4138, 0), (87, 0, 0, 0), (88, 0, 0, 0), (89, 0, 0, 0), (90, 0, 0, 0), (91, 366, 6128, 0), (94, 0, 0, 0), (95, 50, 4138, 0), (98, 0, 0, 0), (99, 0, 0, 0), (100, 0, 0, 0), (101, 0, 0, 0), (102, 0, 0, 0), (103, 0, 0, 0), (104, 0, 0, 0), (105, 0, 0, 0), (106, 0, 0, 0), (109, 0, 0, 0), (112, 0, 0, 0), (114, 0, 0, 0)]
def ab_x153 : List (Nat × Nat × Nat × Nat) := [(0, 0, 0, 0), (1, 0, 0, 0), (2, 96, 4112, 0), (5, 0, 0, 0), (6, 0, 0, 0), (7, 363, 6121, 0), (10, 0, 0, 0), (13, 0, 0, 0), (14, 0, 0, 0), (15, 0, 0, 0), (16, 357, 6125, 0), (19, 0, 0, 0), (20, 0, 0, 0), (21, 50, 4138, 0), (24, 0, 0, 0), (25, 0, 0, 0), (26, 0, 0, 0), (27, 0, 0, 0), (28, 0, 0, 0), (29, 0, 0, 0), (30, 325, 5216, 0), (33, 0, 0, 0), (34, 0, 0, 0), (36, 0, 0, 0), (38, 0, 0, 0), (41, 0, 0, 0), (44, 0, 0, 0), (45, 50, 4138, 0), (48, 0, 0, 0), (49, 0, 0, 0), (51, 0, 0, 0), (52, 0, 0, 0), (53, 0, 0, 0), (54, 0, 0, 0), (57, 0, 0, 0), (60, 0, 0, 0), (61, 0, 0, 0)]
def ab_x154 : List (Nat × Nat × Nat × Nat) := [(0, 0, 0, 0), (1, 0, 0, 0), (2, 0, 0, 0), (3, 0, 0, 0), (4, 0, 0, 0), (5, 0, 0, 0), (7, 0, 0, 0), (10, 0, 0, 0), (11, 0, 0, 0), (12, 50, 4138, 0), (15, 0, 0, 0), (16, 357, 6125, 0), (19, 0, 0, 0), (21, 0, 0, 0), (22, 0, 0, 0), (23, 0, 0, 0), (24, 0, 0, 0), (25, 0, 0, 0), (28, 0, 0, 0), (29, 0, 0, 0), (32, 0, 0, 0), (33, 0, 0, 0), (34, 0, 0, 0), (35, 0, 0, 0), (38, 0, 0, 0), (41, 0, 0, 0), (42, 0, 0, 0)]
def ab_x155 : List (Nat × Nat × Nat × Nat) := [(0, 0, 0, 0), (1, 0, 0, 0), (2, 0, 0, 0), (3, 0, 0, 0), (4, 0, 0, 0), (5, 0, 0, 0), (7, 0, 0, 0), (10, 0, 0, 0), (11, 0, 0, 0), (12, 50, 4138, 0), (15, 0, 0, 0), (16, 357, 6125, 0), (19, 0, 0, 0), (20, 0, 0, 0), (21, 0, 0, 0), (22, 0, 0, 0), (23, 0, 0, 0), (24, 0, 0, 0), (25, 0, 0, 0), (26, 0, 0, 0), (29, 0, 0, 0), (32, 0, 0, 0), (33, 0, 0, 0)]
def ab_x156 : List (Nat × Nat × Nat × Nat) := [(0, 0, 0, 0), (1, 335, 6000, 0), (4, 0, 0, 0), (5, 0, 0, 0), (6, 0, 0, 0), (7, 0, 0, 0), (8, 0, 0, 0), (9, 0, 0, 0), (10, 255, 4080, 0), (13, 0, 0, 0), (16, 0, 0, 0), (17, 0, 0, 0), (18, 0, 0, 0), (19, 360, 6132, 0), (22, 0, 0, 0), (24, 0, 0, 0), (25, 0, 0, 0), (27, 0, 0, 0), (30, 0, 0, 0), (32, 0, 0, 0), (33, 0, 0, 0), (34, 0, 0, 0), (37, 0, 0, 0), (38, 0, 0, 0), (39, 0, 0, 0), (40, 0, 0, 0), (43, 0, 0, 0), (46, 0, 0, 0), (47, 0, 0, 0)]
def ab_x157 : List (Nat × Nat × Nat × Nat) := [(0, 0, 0, 0), (1, 0, 0, 0), (2, 96, 4112, 0), (5, 0, 0, 0), (6, 0, 0, 0), (7, 363, 6121, 0), (10, 0, 0, 0), (13, 341, 6036, 9), (16, 0, 0, 0), (17, 0, 0, 0), (18, 0, 0, 0), (60, 0, 0, 0), (61, 50, 4138, 0), (64, 0, 0, 0), (65, 357, 6125, 0), (68, 0, 0, 0), (69, 0, 0, 0), (70, 0, 0, 0), (71, 0, 0, 0), (72, 0, 0, 0), (73, 255, 4080, 0), (76, 0, 0, 0), (77, 50, 4138, 0), (80, 0, 0, 0), (81, 357, 6125, 0), (84, 0, 0, 0), (85, 0, 0, 0), (86, 0, 0, 0), (87, 0, 0, 0), (88, 0, 0, 0), (89, 0, 0, 0), (90, 0, 0, 0), (91, 369, 6144, 0), (94, 0, 0, 0), (95, 0, 0, 0), (96, 22, 4118, 0), (99, 0, 0, 0), (100, 0, 0, 0), (101, 0, 0, 0), (102, 0, 0, 0), (103, 25, 4119, 0), (106, 0, 0, 0), (107, 0, 0, 0), (108, 0, 0, 0), (109, 0, 0, 0), (110, 0, 0, 0), (111, 372, 6148, 0), (114, 0, 0, 0), (115, 0, 0, 0), (116, 0, 0, 0), (117, 375, 6152, 0), (120, 0, 0, 0), (121, 0, 0, 0), (122, 372, 6148, 0), (125, 0, 0, 0), (126, 0, 0, 0), (127, 341, 6036, 9), (130, 0, 0, 0)]
def ab_x158 : List (Nat × Nat × Nat × Nat) := [(0, 0, 0, 0), (1, 0, 0, 0), (2, 96, 4112, 0), (5, 0, 0, 0), (6, 0, 0, 0), (7, 363, 6121, 0), (10, 0, 0, 0), (13, 0, 0, 0), (14, 0, 0, 0), (15, 316, 5205, 0), (18, 0, 0, 0), (21, 0, 0, 0), (22, 50, 4138, 0), (25, 0, 0, 0), (26, 357, 6125, 0), (29, 0, 0, 0), (30, 0, 0, 0), (31, 0, 0, 0), (32, 0, 0, 0), (33, 0, 0, 0), (34, 0, 0, 0), (37, 341, 6036, 9), (40, 0, 0, 0)]
def ab_x159 : List (Nat × Nat × Nat × Nat) := [(0, 0, 0, 0), (1, 0, 0, 0), (2, 378, 4157, 0), (5, 381, 6168, 9), (8, 0, 0, 0), (9, 0, 0, 0), (12, 0, 0, 0), (13, 382, 6169, 9), (16, 0, 0, 0), (17, 378, 4157, 0), (20, 0, 0, 0), (21, 378, 4157, 0), (24, 0, 0, 0), (26, 0, 0, 0), (27, 0, 0, 0), (28, 0, 0, 0), (29, 0, 0, 0)]
def ab_x160 : List (Nat × Nat × Nat × Nat) := [(0, 0, 0, 0), (1, 0, 0, 0), (2, 0, 0, 0), (3, 0, 0, 0), (4, 0, 0, 0), (5, 0, 0, 0), (6, 241, 5174, 0), (9, 0, 0, 0), (12, 0, 0, 0), (13, 0, 0, 0), (14, 68, 4148, 0), (17, 0, 0, 0), (18, 0, 0, 0), (19, 0, 0, 0), (20, 0, 0, 0), (21, 0, 0, 0), (24, 0, 0, 0), (27, 0, 0, 0), (28, 0, 0, 0)]
def ab_x161 : List (Nat × Nat × Nat × Nat) := [(0, 0, 0, 0), (1, 0, 0, 0), (2, 96, 4112, 0), (5, 0, 0, 0), (6, 0, 0, 0), (7, 0, 0, 0), (10, 0, 0, 0), (11, 0, 0, 0), (12, 0, 0, 0), (15, 0, 0, 0), (16, 0, 0, 0), (18, 0, 0, 0), (21, 0, 0, 0), (22, 0, 0, 0), (25, 0, 0, 0), (26, 0, 0, 0), (27, 0, 0, 0), (30, 0, 0, 0), (31, 241, 5174, 0), (34, 0, 0, 0), (37, 0, 0, 0), (38, 255, 4080, 0), (41, 0, 0, 0), (42, 0, 0, 0), (43, 0, 0, 0), (45, 0, 0, 0), (48, 0, 0, 0), (49, 0, 0, 0), (52, 0, 0, 0), (53, 0, 0, 0), (55, 0, 0, 0), (57, 0, 0, 0), (60, 0, 0, 0), (61, 0, 0, 0), (62, 0, 0, 0), (65, 341, 6036, 9), (68, 0, 0, 0), (71, 0, 0, 0), (72, 0, 0, 0), (73, 0, 0, 0), (74, 0, 0, 0), (75, 0, 0, 0), (76, 0, 0, 0), (79, 0, 0, 0), (80, 13, 4115, 0), (83, 0, 0, 0), (84, 0, 0, 0), (85, 0, 0, 0), (88, 0, 0, 0), (89, 378, 4157, 0), (92, 0, 0, 0), (93, 50, 4138, 0), (96, 0, 0, 0), (97, 0, 0, 0), (98, 53, 4139, 0), (101, 0, 0, 0), (102, 251, 5186, 0), (105, 0, 0, 0), (106, 255, 4080, 0), (109, 0, 0, 0), (111, 0, 0, 0), (112, 0, 0, 0), (113, 270, 4144, 0), (116, 0, 0, 0), (117, 0, 0, 0), (119, 0, 0, 0), (121, 0, 0, 0), (122, 0, 0, 0), (125, 0, 0, 0), (126, 0, 0, 0), (127, 383, 6164, 0), (130, 0, 0, 0), (132, 0, 0, 0), (133, 0, 0, 0), (134, 241, 5174, 0), (137, 383, 6164, 0), (140, 0, 0, 0), (142, 0, 0, 0), (143, 0, 0, 0), (145, 0, 0, 0), (147, 0, 0, 0), (149, 0, 0, 0), (150, 322, 5212, 0), (153, 0, 0, 0), (154, 247, 4076, 0), (157, 0, 0, 0), (158, 50, 4138, 0), (161, 0, 0, 0), (163, 0, 0, 0), (164, 255, 4080, 0), (167, 0, 0, 0), (168, 0, 0, 0), (169, 0, 0, 0), (170, 0, 0, 0), (171, 0, 0, 0), (172, 0, 0, 0), (173, 0, 0, 0), (176, 383, 6164, 0), (179, 0, 0, 0), (180, 0, 0, 0), (183, 0, 0, 0), (186, 0, 0, 0), (187, 335, 6000, 0), (190, 0, 0, 0), (191, 0, 0, 0), (193, 0, 0, 0), (195, 0, 0, 0), (197, 0, 0, 0), (199, 0, 0, 0), (200, 255, 4080, 0), (203, 0, 0, 0), (206, 0, 0, 0), (208, 0, 0, 0), (209, 81, 4152, 0), (212, 0, 0, 0), (214, 0, 0, 0), (215, 0, 0, 0), (218, 0, 0, 0), (219, 0, 0, 0), (222, 0, 0, 0), (223, 0, 0, 0), (224, 0, 0, 0), (226, 0, 0, 0), (229, 0, 0, 0), (232, 0, 0, 0), (233, 0, 0, 0), (236, 0, 0, 0), (238, 0, 0, 0), (241, 0, 0, 0), (242, 0, 0, 0), (243, 0, 0, 0), (246, 0, 0, 0), (247, 386, 6170, 0), (250, 0, 0, 0), (253, 0, 0, 0), (254, 270, 4144, 0), (257, 0, 0, 0), (259, 0, 0, 0), (260, 53, 4139, 0), (263, 0, 0, 0), (264, 0, 0, 0), (265, 50, 4138, 0), (268, 0, 0, 0), (269, 251, 5186, 0), (272, 0, 0, 0), (274, 0, 0, 0)]
def ab_x162 : List (Nat × Nat × Nat × Nat) := [(0, 0, 0, 0), (1, 0, 0, 0), (2, 0, 0, 0), (3, 0, 0, 0), (4, 0, 0, 0), (5, 0, 0, 0), (6, 255, 4080, 0), (9, 0, 0, 0), (12, 0, 0, 0), (13, 0, 0, 0), (14, 0, 0, 0), (15, 298, 5232, 0), (18, 0, 0, 0), (21, 0, 0, 0), (22, 0, 0, 0), (25, 0, 0, 0), (26, 0, 0, 0), (27, 0, 0, 0), (28, 0, 0, 0), (31, 0, 0, 0), (34, 0, 0, 0), (35, 0, 0, 0)]
def ab_x163 : List (Nat × Nat × Nat × Nat) := [(0, 0, 0, 0), (1, 335, 6000, 0), (4, 0, 0, 0), (5, 0, 0, 0), (6, 0, 0, 0), (7, 0, 0, 0), (8, 0, 0, 0), (9, 0, 0, 0), (10, 241, 5174, 0), (13, 0, 0, 0), (16, 0, 0, 0), (17, 0, 0, 0), (18, 77, 4151, 0), (21, 0, 0, 0), (22, 0, 0, 0), (23, 0, 0, 0), (26, 0, 0, 0), (27, 0, 0, 0), (30, 0, 0, 0), (31, 0, 0, 0), (32, 0, 0, 0), (33, 0, 0, 0), (36, 0, 0, 0), (39, 0, 0, 0), (40, 0, 0, 0)]
def ab_x164 : List (Nat × Nat × Nat × Nat) := [(0, 0, 0, 0), (1, 335, 6000, 0), (4, 0, 0, 0), (5, 354, 6113, 0), (8, 0, 0, 0)]
def ab_x165 : List (Nat × Nat × Nat × Nat) := [(0, 0, 0, 0), (1, 0, 0, 0), (2, 96, 4112, 0), (5, 0, 0, 0), (6, 0, 0, 0), (72, 0, 0, 0), (73, 241, 5174, 0), (76, 0, 0, 0), (77, 0, 0, 0), (78, 255, 4080, 0), (81, 0, 0, 0), (82, 0, 0, 0), (83, 244, 5178, 0), (86, 0, 0, 0), (87, 0, 0, 0), (88, 50, 4138, 0), (91, 0, 0, 0), (94, 0, 0, 0), (95, 0, 0, 0), (96, 0, 0, 0), (97, 389, 6178, 0), (100, 0, 0, 0), (101, 0, 0, 0), (102, 392, 6182, 0), (105, 0, 0, 0), (106, 0, 0, 0), (107, 255, 4080, 0), (110, 0, 0, 0), (113, 0, 0, 0), (115, 0, 0, 0), (118, 0, 0, 0), (119, 322, 5212, 0), (122, 0, 0, 0), (123, 0, 0, 0), (124, 395, 6186, 0), (127, 0, 0, 0), (128, 0, 0, 0), (129, 0, 0, 0), (130, 0, 0, 0), (131, 255, 4080, 0), (134, 267, 4096, 0), (137, 0, 0, 0), (138, 0, 0, 0), (139, 235, 4142, 0), (142, 0, 0, 0), (143, 0, 0, 0), (144, 99, 4114, 0), (147, 0, 0, 0), (148, 0, 0, 0), (149, 50, 4138, 0), (152, 0, 0, 0), (155, 0, 0, 0), (156, 0, 0, 0), (157, 0, 0, 0), (158, 50, 4138, 0), (161, 0, 0, 0), (164, 0, 0, 0), (165, 0, 0, 0), (166, 0, 0, 0), (167, 0, 0, 0)]
def ab_x166 : List (Nat × Nat × Nat × Nat) := [(0, 0, 0, 0), (1, 3, 169, 0), (4, 0, 0, 0), (5, 0, 0, 0), (7, 0, 0, 0), (9, 9, 170, 0), (12, 0, 0, 0), (13, 0, 0, 0), (15, 0, 0, 0), (17, 15, 175, 0), (20, 0, 0, 0), (21, 0, 0, 0), (23, 0, 0, 0), (25, 18, 178, 0), (28, 0, 0, 0), (29, 0, 0, 0), (31, 0, 0, 0), (33, 21, 182, 0), (36, 0, 0, 0), (37, 0, 0, 0), (39, 0, 0, 0), (41, 24, 184, 0), (44, 0, 0, 0), (45, 0, 0, 0), (48, 0, 0, 0), (50, 27, 187, 0), (53, 0, 0, 0), (54, 0, 0, 0), (57, 0, 0, 0), (59, 30, 189, 0), (62, 0, 0, 0), (63, 0, 0, 0), (65, 0, 0, 0), (67, 33, 193, 0), (70, 0, 0, 0), (71, 0, 0, 0), (73, 0, 0, 0), (75, 36, 196, 0), (78, 0, 0, 0), (79, 0, 0, 0), (81, 0, 0, 0), (83, 39, 200, 0), (86, 0, 0, 0)]
def ab_x167 : List (Nat × Nat × Nat × Nat) := [(0, 0, 0, 0), (1, 0, 0, 0), (2, 42, 201, 0), (5, 0, 0, 0)]
def ab_x168 : List (Nat × Nat × Nat × Nat) := [(0, 0, 0, 0), (1, 0, 0, 0), (4, 0, 0, 0), (5, 0, 0, 0), (6, 42, 201, 0), (9, 0, 0, 0), (12, 0, 0, 0), (13, 0, 0, 0), (16, 0, 0, 0), (17, 0, 0, 0)]
def ab_x169 : List (Nat × Nat × Nat × Nat) := [(0, 0, 0, 0), (1, 0, 0, 0), (2, 46, 2046, 0), (5, 0, 0, 0), (8, 0, 0, 0), (9, 9, 170, 0), (12, 0, 0, 0), (13, 0, 0, 0), (14, 0, 0, 0), (16, 0, 0, 0), (19, 0, 0, 0), (20, 0, 0, 0), (23, 0, 0, 0), (24, 0, 0, 0)]
def ab_x170 : List (Nat × Nat × Nat × Nat) := [(0, 0, 0, 0), (1, 42, 201, 0), (4, 0, 0, 0), (7, 0, 0, 0), (8, 21, 182, 0), (11, 0, 0, 0), (12, 42, 201, 0), (15, 0, 0, 0), (16, 0, 0, 0), (17, 0, 0, 0), (18, 0, 0, 0), (21, 0, 0, 0), (23, 0, 0, 0)]
def ab_x171 : List (Nat × Nat × Nat × Nat) := [(0, 0, 0, 0), (1, 42, 201, 0), (4, 0, 0, 0), (6, 0, 0, 0), (9, 0, 0, 0), (11, 0, 0, 0), (12, 0, 0, 0), (13, 0, 0, 0), (16, 0, 0, 0), (17, 0, 0, 0), (18, 9, 170, 0), (21, 0, 0, 0), (22, 42, 201, 0), (25, 0, 0, 0), (26, 0, 0, 0), (27, 0, 0, 0), (28, 15, 175, 0), (31, 0, 0, 0), (32, 42, 201, 0), (35, 0, 0, 0), (36, 0, 0, 0), (37, 0, 0, 0), (38, 18, 178, 0), (41, 0, 0, 0), (42, 42, 201, 0), (45, 0, 0, 0), (46, 0, 0, 0), (47, 0, 0, 0), (48, 21, 182, 0), (51, 0, 0, 0), (52, 42, 201, 0), (55, 0, 0, 0), (57, 0, 0, 0), (58, 0, 0, 0), (59, 24, 184, 0), (62, 0, 0, 0), (63, 42, 201, 0), (66, 0, 0, 0), (68, 0, 0, 0), (69, 0, 0, 0), (71, 0, 0, 0), (72, 0, 0, 0), (73, 27, 187, 0), (76, 0, 0, 0), (77, 0, 0, 0), (78, 42, 201, 0), (81, 0, 0, 0), (82, 0, 0, 0), (83, 50, 2077, 0), (86, 0, 0, 0), (87, 33, 193, 0), (90, 0, 0, 0), (91, 42, 201, 0), (94, 0, 0, 0), (95, 0, 0, 0), (96, 0, 0, 0), (97, 36, 196, 0), (100, 0, 0, 0), (101, 42, 201, 0), (104, 0, 0, 0), (105, 0, 0, 0), (106, 0, 0, 0), (107, 39, 200, 0), (110, 0, 0, 0), (111, 42, 201, 0), (114, 0, 0, 0), (115, 0, 0, 0), (116, 0, 0, 0), (117, 39, 200, 0), (120, 0, 0, 0), (121, 42, 201, 0), (124, 0, 0, 0), (125, 0, 0, 0), (126, 0, 0, 0), (127, 0, 0, 0), (128, 0, 0, 0), (129, 0, 0, 0), (131, 0, 0, 0), (132, 0, 0, 0), (133, 0, 0, 0), (134, 0, 0, 0), (135, 42, 201, 0), (138, 0, 0, 0), (139, 0, 0, 0), (140, 42, 201, 0), (143, 0, 0, 0)]
def ab_x172 : List (Nat × Nat × Nat × Nat) := [(0, 0, 0, 0), (1, 42, 201, 0), (4, 0, 0, 0), (6, 0, 0, 0), (9, 0, 0, 0), (10, 0, 0, 0), (11, 46, 2046, 0), (14, 0, 0, 0), (17, 0, 0, 0), (18, 0, 0, 0), (19, 9, 170, 0), (22, 0, 0, 0), (23, 42, 201, 0), (26, 0, 0, 0), (28, 0, 0, 0), (29, 0, 0, 0), (30, 15, 175, 0), (33, 0, 0, 0), (34, 42, 201, 0), (37, 0, 0, 0), (38, 0, 0, 0), (39, 0, 0, 0), (40, 18, 178, 0), (43, 0, 0, 0), (44, 42, 201, 0), (47, 0, 0, 0), (48, 0, 0, 0), (49, 0, 0, 0), (50, 21, 182, 0), (53, 0, 0, 0), (54, 42, 201, 0), (57, 0, 0, 0), (58, 0, 0, 0), (59, 0, 0, 0), (60, 24, 184, 0), (63, 0, 0, 0), (64, 42, 201, 0), (67, 0, 0, 0), (68, 0, 0, 0), (69, 0, 0, 0), (70, 33, 193, 0), (73, 0, 0, 0), (74, 42, 201, 0), (77, 0, 0, 0), (78, 0, 0, 0), (79, 0, 0, 0), (80, 36, 196, 0), (83, 0, 0, 0), (84, 42, 201, 0), (87, 0, 0, 0), (88, 0, 0, 0), (89, 0, 0, 0), (90, 39, 200, 0), (93, 0, 0, 0), (94, 42, 201, 0), (97, 0, 0, 0), (98, 0, 0, 0), (99, 0, 0, 0), (100, 39, 200, 0), (103, 0, 0, 0), (104, 42, 201, 0), (107, 0, 0, 0), (108, 0, 0, 0), (109, 0, 0, 0), (110, 0, 0, 0), (111, 0, 0, 0), (112, 36, 196, 0), (115, 0, 0, 0), (116, 0, 0, 0), (117, 42, 201, 0), (120, 0, 0, 0), (121, 0, 0, 0), (122, 0, 0, 0), (123, 42, 201, 0), (126, 0, 0, 0), (127, 0, 0, 0), (128, 42, 201, 0), (131, 0, 0, 0)]
def ab_x173 : List (Nat × Nat × Nat × Nat) := [(0, 0, 0, 0), (1, 42, 201, 0), (4, 0, 0, 0), (5, 0, 0, 0), (6, 0, 0, 0), (7, 0, 0, 0), (8, 0, 0, 0), (9, 0, 0, 0), (12, 0, 0, 0), (13, 0, 0, 0), (16, 0, 0, 0), (17, 9, 170, 0), (20, 0, 0, 0), (21, 0, 0, 0), (22, 0, 0, 0), (24, 0, 0, 0), (27, 0, 0, 0), (28, 36, 196, 0), (31, 0, 0, 0), (32, 18, 178, 0), (35, 0, 0, 0), (36, 0, 0, 0), (37, 0, 0, 0), (38, 0, 0, 0), (39, 0, 0, 0), (40, 0, 0, 0), (41, 42, 201, 0), (44, 0, 0, 0), (47, 0, 0, 0), (50, 0, 0, 0)]
def ab_x174 : List (Nat × Nat × Nat × Nat) := [(0, 0, 0, 0), (1, 27, 187, 0), (4, 0, 0, 0), (5, 0, 0, 0), (6, 0, 0, 0), (7, 0, 0, 0), (8, 30, 189, 0), (11, 0, 0, 0), (12, 0, 0, 0), (13, 0, 0, 0), (14, 0, 0, 0), (15, 50, 2077, 0), (18, 0, 0, 0), (19, 33, 193, 0), (22, 0, 0, 0), (23, 0, 0, 0), (24, 0, 0, 0), (25, 0, 0, 0)]
def ab_x175 : List (Nat × Nat × Nat × Nat) := [(0, 0, 0, 0), (1, 39, 200, 0), (4, 0, 0, 0), (5, 0, 0, 0), (6, 0, 0, 0), (7, 39, 200, 0), (10, 0, 0, 0), (11, 0, 0, 0), (12, 0, 0, 0), (13, 0, 0, 0)]
def ab_x176 : List (Nat × Nat × Nat × Nat) := [(0, 0, 0, 0), (1, 0, 0, 0), (2, 0, 0, 0), (3, 0, 0, 0), (4, 42, 201, 0), (7, 0, 0, 0), (10, 0, 0, 0), (11, 21, 182, 0), (14, 0, 0, 0), (15, 0, 0, 0), (16, 0, 0, 0), (17, 0, 0, 0), (20, 0, 0, 0), (23, 0, 0, 0), (26, 0, 0, 0), (27, 0, 0, 0)]
def ab_x177 : List (Nat × Nat × Nat × Nat) := [(0, 0, 0, 0), (1, 0, 0, 0), (2, 0, 0, 0), (3, 0, 0, 0), (4, 0, 0, 0), (5, 0, 0, 0), (6, 42, 201, 0), (9, 0, 0, 0), (12, 0, 0, 0), (13, 36, 196, 0), (16, 0, 0, 0), (17, 0, 0, 0), (18, 0, 0, 0), (19, 0, 0, 0), (22, 0, 0, 0), (25, 0, 0, 0), (28, 0, 0, 0), (31, 0, 0, 0), (32, 0, 0, 0)]
def ab_x178 : List (Nat × Nat × Nat × Nat) := [(0, 0, 0, 0), (1, 0, 0, 0), (2, 42, 201, 0), (5, 42, 201, 0), (8, 0, 0, 0), (9, 9, 170, 0), (12, 0, 0, 0), (13, 0, 0, 0), (14, 9, 170, 0), (17, 0, 0, 0), (18, 0, 0, 0), (19, 42, 201, 0), (22, 50, 2077, 0), (25, 0, 0, 0), (26, 15, 175, 0), (29, 0, 0, 0), (30, 0, 0, 0), (31, 15, 175, 0), (34, 0, 0, 0), (35, 0, 0, 0), (36, 42, 201, 0), (39, 50, 2077, 0), (42, 0, 0, 0), (43, 18, 178, 0), (46, 0, 0, 0), (47, 0, 0, 0), (48, 18, 178, 0), (51, 0, 0, 0), (52, 0, 0, 0), (53, 42, 201, 0), (56, 50, 2077, 0), (59, 0, 0, 0), (60, 21, 182, 0), (63, 0, 0, 0), (64, 0, 0, 0), (65, 21, 182, 0), (68, 0, 0, 0), (69, 0, 0, 0), (70, 42, 201, 0), (73, 50, 2077, 0), (76, 0, 0, 0), (77, 24, 184, 0), (80, 0, 0, 0), (81, 0, 0, 0), (82, 24, 184, 0), (85, 0, 0, 0), (86, 0, 0, 0), (87, 42, 201, 0), (90, 50, 2077, 0), (93, 0, 0, 0), (94, 27, 187, 0), (97, 0, 0, 0), (98, 0, 0, 0), (99, 27, 187, 0), (102, 0, 0, 0), (103, 0, 0, 0), (104, 0, 0, 0), (105, 42, 201, 0), (108, 0, 0, 0), (109, 50, 2077, 0), (112, 0, 0, 0), (113, 30, 189, 0), (116, 0, 0, 0), (117, 0, 0, 0), (118, 30, 189, 0), (121, 0, 0, 0), (122, 0, 0, 0), (123, 0, 0, 0), (124, 42, 201, 0), (127, 0, 0, 0), (128, 50, 2077, 0), (131, 0, 0, 0), (132, 33, 193, 0), (135, 0, 0, 0), (136, 0, 0, 0), (137, 33, 193, 0), (140, 0, 0, 0), (141, 0, 0, 0), (142, 42, 201, 0), (145, 50, 2077, 0), (148, 0, 0, 0), (149, 36, 196, 0), (152, 0, 0, 0), (153, 0, 0, 0), (154, 36, 196, 0), (157, 0, 0, 0), (158, 0, 0, 0), (159, 42, 201, 0), (162, 50, 2077, 0), (165, 0, 0, 0), (166, 39, 200, 0), (169, 0, 0, 0), (170, 0, 0, 0), (171, 39, 200, 0), (174, 0, 0, 0), (175, 0, 0, 0), (176, 42, 201, 0), (179, 0, 0, 0), (180, 0, 0, 0), (181, 50, 2077, 0), (184, 0, 0, 0)]
def ab_x179 : List (Nat × Nat × Nat × Nat) := [(0, 0, 0, 0), (1, 1, 1061, 0), (4, 0, 0, 0), (5, 7, 1062, 0), (8, 0, 0, 0), (9, 9, 1063, 1), (12, 10, 1067, 0), (15, 0, 0, 0)]
def ab_x180 : List (Nat × Nat × Nat × Nat) := [(0, 0, 0, 0), (1, 3, 38, 0), (4, 0, 0, 0), (5, 0, 0, 0), (6, 0, 0, 0), (8, 9, 80, 0), (11, 0, 0, 0), (12, 0, 0, 0), (13, 15, 87, 0), (16, 0, 0, 0), (17, 19, 39, 0), (20, 0, 0, 0), (21, 0, 0, 0), (22, 21, 41, 1), (25, 24, 79, 0), (28, 0, 0, 0)]
def ab_x181 : List (Nat × Nat × Nat × Nat) := [(0, 0, 0, 0), (1, 0, 0, 0), (2, 28, 81, 0), (5, 0, 0, 0), (6, 28, 81, 0), (9, 32, 1149, 1), (12, 0, 0, 0), (13, 0, 0, 0), (14, 37, 82, 0), (17, 0, 0, 0), (18, 37, 82, 0), (21, 41, 1153, 1), (24, 0, 0, 0), (25, 0, 0, 0), (26, 44, 83, 0), (29, 0, 0, 0), (30, 0, 0, 0), (31, 48, 84, 0), (34, 0, 0, 0), (35, 0, 0, 0), (36, 51, 85, 0), (39, 0, 0, 0), (40, 0, 0, 0), (41, 15, 87, 0), (44, 0, 0, 0), (45, 24, 79, 0), (48, 0, 0, 0), (49, 54, 1157, 1), (52, 0, 0, 0), (53, 0, 0, 0), (55, 0, 0, 0), (57, 0, 0, 0), (58, 0, 0, 0), (61, 0, 0, 0), (62, 51, 85, 0), (65, 0, 0, 0), (68, 0, 0, 0), (69, 24, 79, 0), (72, 58, 50, 1), (75, 0, 0, 0), (78, 0, 0, 0), (79, 0, 0, 0), (80, 61, 1185, 0), (83, 0, 0, 0), (86, 0, 0, 0), (87, 0, 0, 0), (88, 24, 79, 0), (91, 65, 55, 1), (94, 69, 1193, 0), (97, 0, 0, 0), (100, 0, 0, 0), (103, 0, 0, 0), (104, 51, 85, 0), (107, 0, 0, 0), (110, 0, 0, 0), (112, 0, 0, 0), (115, 0, 0, 0), (116, 0, 0, 0)]
def ab_x182 : List (Nat × Nat × Nat × Nat) := [(0, 73, 1197, 0), (3, 0, 0, 0), (4, 78, 1199, 0), (7, 0, 0, 0), (8, 0, 0, 0), (48, 0, 0, 0), (49, 84, 1205, 0), (52, 0, 0, 0), (55, 0, 0, 0), (56, 87, 1233, 0), (59, 0, 0, 0), (62, 0, 0, 0), (63, 90, 2016, 0), (66, 0, 0, 0), (69, 0, 0, 0), (70, 93, 2028, 0), (73, 0, 0, 0), (76, 0, 0, 0), (77, 96, 2032, 0), (80, 0, 0, 0), (83, 0, 0, 0), (84, 99, 2037, 0), (87, 0, 0, 0), (90, 0, 0, 0), (91, 0, 0, 0), (92, 102, 6209, 1), (95, 105, 2065, 0), (98, 0, 0, 0)]
def ab_x183 : List (Nat × Nat × Nat × Nat) := [(0, 0, 0, 0), (1, 0, 0, 0), (2, 28, 81, 0), (5, 108, 114, 1), (8, 0, 0, 0), (10, 111, 1209, 0), (13, 0, 0, 0), (14, 24, 79, 0), (17, 115, 1213, 1), (20, 0, 0, 0), (21, 24, 79, 0), (24, 118, 53, 1), (27, 0, 0, 0), (28, 0, 0, 0), (29, 121, 1214, 0), (32, 0, 0, 0), (33, 0, 0, 0), (34, 28, 81, 0), (37, 0, 0, 0), (38, 124, 1218, 1), (41, 0, 0, 0), (42, 0, 0, 0), (45, 0, 0, 0), (46, 0, 0, 0), (47, 0, 0, 0), (48, 128, 1189, 0), (51, 0, 0, 0), (52, 131, 1225, 0), (55, 0, 0, 0), (56, 51, 85, 0), (59, 0, 0, 0), (62, 0, 0, 0), (63, 28, 81, 0), (66, 0, 0, 0), (67, 134, 1229, 1), (70, 0, 0, 0)]
def ab_x184 : List (Nat × Nat × Nat × Nat) := [(0, 0, 0, 0), (1, 24, 79, 0), (4, 115, 1213, 1), (7, 0, 0, 0), (8, 0, 0, 0), (9, 24, 79, 0), (12, 65, 55, 1), (15, 102, 6209, 1), (18, 137, 1237, 0), (21, 0, 0, 0), (22, 0, 0, 0), (23, 24, 79, 0), (26, 118, 53, 1), (29, 0, 0, 0), (30, 0, 0, 0), (31, 0, 0, 0), (32, 0, 0, 0), (33, 140, 2001, 0), (36, 0, 0, 0), (37, 0, 0, 0), (38, 28, 81, 0), (41, 0, 0, 0), (42, 0, 0, 0), (43, 144, 2005, 1), (46, 0, 0, 0), (47, 0, 0, 0), (50, 0, 0, 0), (51, 0, 0, 0), (52, 0, 0, 0), (53, 128, 1189, 0), (56, 0, 0, 0), (57, 0, 0, 0), (58, 24, 79, 0), (61, 65, 55, 1), (64, 147, 6210, 1), (67, 137, 1237, 0), (70, 0, 0, 0), (72, 0, 0, 0), (73, 0, 0, 0), (74, 0, 0, 0), (75, 140, 2001, 0), (78, 0, 0, 0), (80, 0, 0, 0), (82, 0, 0, 0), (83, 0, 0, 0), (86, 0, 0, 0), (87, 0, 0, 0), (88, 0, 0, 0), (89, 140, 2001, 0), (92, 0, 0, 0), (95, 0, 0, 0), (96, 0, 0, 0), (97, 0, 0, 0), (100, 140, 2001, 0), (103, 0, 0, 0), (105, 0, 0, 0), (106, 131, 1225, 0), (109, 0, 0, 0), (110, 51, 85, 0), (113, 0, 0, 0), (116, 0, 0, 0), (117, 28, 81, 0), (120, 0, 0, 0), (121, 0, 0, 0), (122, 0, 0, 0), (124, 0, 0, 0), (126, 0, 0, 0), (128, 150, 2012, 1), (131, 0, 0, 0)]
def ab_x185 : List (Nat × Nat × Nat × Nat) := [(0, 0, 0, 0), (1, 0, 0, 0), (2, 28, 81, 0), (5, 154, 122, 1), (8, 0, 0, 0), (9, 111, 1209, 0), (12, 0, 0, 0), (13, 24, 79, 0), (16, 115, 1213, 1), (19, 0, 0, 0), (20, 24, 79, 0), (23, 118, 53, 1), (26, 0, 0, 0), (27, 0, 0, 0), (28, 121, 1214, 0), (31, 0, 0, 0), (32, 0, 0, 0), (33, 28, 81, 0), (36, 0, 0, 0), (37, 157, 2020, 1), (40, 0, 0, 0), (41, 0, 0, 0), (44, 0, 0, 0), (45, 0, 0, 0), (46, 0, 0, 0), (47, 128, 1189, 0), (50, 0, 0, 0), (51, 0, 0, 0), (52, 24, 79, 0), (55, 65, 55, 1), (58, 102, 6209, 1), (61, 137, 1237, 0), (64, 0, 0, 0), (65, 0, 0, 0), (66, 0, 0, 0), (67, 0, 0, 0), (68, 140, 2001, 0), (71, 0, 0, 0), (73, 0, 0, 0), (74, 131, 1225, 0), (77, 0, 0, 0), (78, 51, 85, 0), (81, 0, 0, 0), (84, 0, 0, 0), (85, 28, 81, 0), (88, 0, 0, 0), (89, 0, 0, 0), (90, 0, 0, 0), (92, 160, 2024, 1), (95, 0, 0, 0)]
def ab_x186 : List (Nat × Nat × Nat × Nat) := [(0, 0, 0, 0), (1, 44, 83, 0), (4, 0, 0, 0), (7, 0, 0, 0), (8, 0, 0, 0), (9, 0, 0, 0), (10, 24, 79, 0), (13, 118, 53, 1), (16, 128, 1189, 0), (19, 0, 0, 0), (20, 0, 0, 0), (21, 44, 83, 0), (24, 0, 0, 0), (25, 24, 79, 0), (28, 115, 1213, 1), (31, 0, 0, 0), (32, 28, 81, 0), (35, 0, 0, 0), (36, 0, 0, 0), (37, 0, 0, 0), (40, 140, 2001, 0), (43, 164, 130, 1), (46, 0, 0, 0), (47, 28, 81, 0), (50, 0, 0, 0), (51, 0, 0, 0), (52, 0, 0, 0), (54, 140, 2001, 0), (57, 167, 133, 1), (60, 0, 0, 0), (61, 131, 1225, 0), (64, 0, 0, 0)]
def ab_x187 : List (Nat × Nat × Nat × Nat) := [(0, 0, 0, 0), (1, 48, 84, 0), (4, 0, 0, 0), (7, 0, 0, 0), (8, 0, 0, 0), (9, 0, 0, 0), (10, 24, 79, 0), (13, 118, 53, 1), (16, 128, 1189, 0), (19, 0, 0, 0), (20, 0, 0, 0), (21, 48, 84, 0), (24, 0, 0, 0), (25, 24, 79, 0), (28, 115, 1213, 1), (31, 0, 0, 0), (32, 28, 81, 0), (35, 0, 0, 0), (36, 0, 0, 0), (37, 170, 2036, 9), (39, 140, 2001, 0), (42, 171, 135, 1), (45, 0, 0, 0), (46, 131, 1225, 0), (49, 0, 0, 0)]
def ab_x188 : List (Nat × Nat × Nat × Nat) := [(0, 0, 0, 0), (1, 0, 0, 0), (2, 37, 82, 0), (5, 174, 204, 1), (8, 0, 0, 0), (10, 111, 1209, 0), (13, 0, 0, 0), (14, 24, 79, 0), (17, 115, 1213, 1), (20, 0, 0, 0), (21, 24, 79, 0), (24, 118, 53, 1), (27, 0, 0, 0), (28, 0, 0, 0), (29, 0, 0, 0), (30, 179, 2041, 9), (32, 140, 2001, 0), (35, 0, 0, 0), (36, 0, 0, 0), (37, 37, 82, 0), (40, 0, 0, 0), (41, 180, 2042, 1), (44, 0, 0, 0), (47, 0, 0, 0), (48, 0, 0, 0), (49, 0, 0, 0), (50, 128, 1189, 0), (53, 0, 0, 0), (56, 0, 0, 0), (57, 37, 82, 0), (60, 183, 199, 1), (63, 0, 0, 0), (64, 0, 0, 0), (65, 0, 0, 0), (66, 0, 0, 0), (69, 0, 0, 0), (70, 0, 0, 0), (71, 0, 0, 0), (72, 128, 1189, 0), (75, 0, 0, 0), (76, 186, 2050, 0), (79, 0, 0, 0), (80, 0, 0, 0), (81, 131, 1225, 0), (84, 0, 0, 0), (85, 51, 85, 0), (88, 0, 0, 0), (91, 0, 0, 0), (92, 37, 82, 0), (95, 0, 0, 0), (96, 0, 0, 0), (97, 189, 2061, 1), (100, 0, 0, 0)]
def ab_x189 : List (Nat × Nat × Nat × Nat) := [(0, 0, 0, 0), (1, 0, 0, 0), (2, 0, 0, 0), (5, 0, 0, 0), (6, 0, 0, 0), (7, 0, 0, 0), (8, 24, 79, 0), (11, 118, 53, 1), (14, 128, 1189, 0), (17, 0, 0, 0), (18, 0, 0, 0), (19, 0, 0, 0), (20, 37, 82, 0), (23, 174, 204, 1), (26, 0, 0, 0), (28, 111, 1209, 0), (31, 0, 0, 0), (32, 24, 79, 0), (35, 115, 1213, 1), (38, 0, 0, 0), (39, 192, 2069, 0), (42, 0, 0, 0), (43, 0, 0, 0), (44, 24, 79, 0), (47, 118, 53, 1), (50, 0, 0, 0), (51, 0, 0, 0), (52, 0, 0, 0), (54, 0, 0, 0), (57, 0, 0, 0), (58, 192, 2069, 0), (61, 0, 0, 0), (64, 0, 0, 0), (65, 0, 0, 0), (67, 0, 0, 0), (69, 0, 0, 0), (70, 0, 0, 0), (73, 0, 0, 0), (74, 0, 0, 0), (75, 0, 0, 0), (76, 128, 1189, 0), (79, 0, 0, 0), (80, 186, 2050, 0), (83, 0, 0, 0), (85, 0, 0, 0), (86, 0, 0, 0), (87, 0, 0, 0), (88, 140, 2001, 0), (91, 0, 0, 0), (93, 0, 0, 0), (94, 0, 0, 0), (96, 0, 0, 0), (98, 0, 0, 0), (99, 0, 0, 0), (102, 0, 0, 0), (103, 9, 80, 0), (106, 0, 0, 0), (108, 0, 0, 0), (110, 0, 0, 0), (112, 0, 0, 0), (115, 0, 0, 0), (116, 0, 0, 0), (117, 170, 2036, 9), (119, 140, 2001, 0), (122, 0, 0, 0), (125, 0, 0, 0), (126, 0, 0, 0), (127, 0, 0, 0), (130, 0, 0, 0), (133, 0, 0, 0), (134, 131, 1225, 0), (137, 0, 0, 0), (138, 51, 85, 0), (141, 0, 0, 0), (144, 0, 0, 0), (145, 37, 82, 0), (148, 0, 0, 0), (149, 0, 0, 0), (150, 0, 0, 0), (152, 0, 0, 0), (154, 0, 0, 0), (156, 0, 0, 0), (157, 9, 80, 0), (160, 195, 2073, 1), (163, 0, 0, 0)]
def ab_x190 : List (Nat × Nat × Nat × Nat) := [(0, 0, 0, 0), (1, 0, 0, 0), (2, 0, 0, 0), (5, 0, 0, 0), (6, 0, 0, 0), (7, 0, 0, 0), (8, 24, 79, 0), (11, 118, 53, 1), (14, 128, 1189, 0), (17, 0, 0, 0)]
def ab_x191 : List (Nat × Nat × Nat × Nat) := [(0, 0, 0, 0), (1, 51, 85, 0), (4, 0, 0, 0), (7, 0, 0, 0), (8, 0, 0, 0), (9, 51, 85, 0), (12, 0, 0, 0), (13, 0, 0, 0), (14, 15, 87, 0), (17, 0, 0, 0)]
def ab_x192 : List (Nat × Nat × Nat × Nat) := [(0, 0, 0, 0), (1, 24, 79, 0), (4, 58, 50, 1), (7, 0, 0, 0), (8, 0, 0, 0), (11, 0, 0, 0), (12, 0, 0, 0), (13, 0, 0, 0), (14, 24, 79, 0), (17, 118, 53, 1), (20, 128, 1189, 0), (23, 0, 0, 0), (24, 51, 85, 0), (27, 0, 0, 0), (30, 0, 0, 0), (31, 0, 0, 0), (34, 0, 0, 0), (35, 0, 0, 0)]
def ab_x193 : List (Nat × Nat × Nat × Nat) := [(0, 0, 0, 0), (1, 0, 0, 0), (2, 61, 1185, 0), (5, 0, 0, 0), (8, 0, 0, 0), (9, 24, 79, 0), (12, 115, 1213, 1), (15, 0, 0, 0)]
def ab_x194 : List (Nat × Nat × Nat × Nat) := [(0, 0, 0, 0), (1, 0, 0, 0), (2, 61, 1185, 0), (5, 0, 0, 0), (8, 0, 0, 0), (9, 0, 0, 0), (10, 0, 0, 0), (11, 24, 79, 0), (14, 199, 57, 1), (17, 0, 0, 0), (18, 0, 0, 0), (19, 24, 79, 0), (22, 115, 1213, 1), (25, 0, 0, 0), (26, 0, 0, 0)]
def ab_x195 : List (Nat × Nat × Nat × Nat) := [(0, 0, 0, 0), (1, 0, 0, 0), (2, 61, 1185, 0), (5, 0, 0, 0), (8, 0, 0, 0), (9, 0, 0, 0), (10, 0, 0, 0), (11, 24, 79, 0), (14, 202, 59, 1), (17, 0, 0, 0), (18, 0, 0, 0), (19, 0, 0, 0), (20, 0, 0, 0), (23, 0, 0, 0), (24, 0, 0, 0), (25, 0, 0, 0), (28, 0, 0, 0), (29, 0, 0, 0), (30, 0, 0, 0), (31, 24, 79, 0), (34, 118, 53, 1), (37, 128, 1189, 0), (40, 0, 0, 0), (41, 0, 0, 0), (42, 0, 0, 0), (43, 24, 79, 0), (46, 115, 1213, 1), (49, 0, 0, 0), (50, 0, 0, 0)]
def ab_x196 : List (Nat × Nat × Nat × Nat) := [(0, 0, 0, 0), (1, 0, 0, 0), (2, 0, 0, 0), (3, 37, 82, 0), (6, 205, 2054, 1), (9, 208, 2058, 0), (12, 0, 0, 0), (15, 140, 2001, 0), (18, 0, 0, 0)]
def ab_x197 : List (Nat × Nat × Nat × Nat) := [(0, 0, 0, 0), (1, 0, 0, 0), (2, 61, 1185, 0), (5, 0, 0, 0), (8, 0, 0, 0), (9, 0, 0, 0), (10, 0, 0, 0), (11, 28, 81, 0), (14, 0, 0, 0), (15, 24, 79, 0), (18, 199, 57, 1), (21, 124, 1218, 1), (24, 0, 0, 0), (25, 0, 0, 0), (26, 0, 0, 0), (27, 0, 0, 0), (30, 0, 0, 0), (31, 0, 0, 0), (32, 0, 0, 0), (33, 24, 79, 0), (36, 118, 53, 1), (39, 128, 1189, 0), (42, 0, 0, 0), (43, 0, 0, 0), (44, 0, 0, 0), (45, 24, 79, 0), (48, 115, 1213, 1), (51, 0, 0, 0), (52, 0, 0, 0)]
def ab_x198 : List (Nat × Nat × Nat × Nat) := [(0, 0, 0, 0), (1, 0, 0, 0), (2, 61, 1185, 0), (5, 0, 0, 0), (8, 0, 0, 0), (9, 0, 0, 0), (10, 0, 0, 0), (11, 0, 0, 0), (12, 0, 0, 0), (15, 0, 0, 0), (16, 0, 0, 0), (17, 0, 0, 0), (18, 24, 79, 0), (21, 118, 53, 1), (24, 128, 1189, 0), (27, 0, 0, 0), (28, 0, 0, 0), (29, 0, 0, 0), (30, 24, 79, 0), (33, 115, 1213, 1), (36, 0, 0, 0), (37, 0, 0, 0)]
def ab_x199 : List (Nat × Nat × Nat × Nat) := [(0, 0, 0, 0), (1, 3, 1023, 0), (4, 0, 0, 0), (5, 0, 0, 0), (7, 0, 0, 0), (9, 9, 1024, 0), (12, 0, 0, 0)]
def ab_x200 : List (Nat × Nat × Nat × Nat) := [(0, 0, 0, 0), (1, 0, 0, 0), (2, 15, 1026, 0), (5, 0, 0, 0), (6, 0, 0, 0), (7, 0, 0, 0), (8, 0, 0, 0), (10, 0, 0, 0), (12, 0, 0, 0), (13, 19, 202, 1), (16, 0, 0, 0), (19, 0, 0, 0), (20, 22, 171, 1), (23, 0, 0, 0), (25, 0, 0, 0), (26, 0, 0, 0), (28, 0, 0, 0), (31, 0, 0, 0), (32, 0, 0, 0), (33, 25, 179, 1), (36, 0, 0, 0), (38, 0, 0, 0), (39, 28, 2117, 0), (42, 0, 0, 0), (43, 0, 0, 0), (44, 0, 0, 0), (46, 32, 2121, 0), (49, 0, 0, 0), (51, 0, 0, 0), (52, 0, 0, 0), (53, 36, 2125, 1), (56, 0, 0, 0), (57, 40, 1029, 0), (60, 0, 0, 0), (63, 0, 0, 0), (64, 0, 0, 0), (67, 0, 0, 0), (68, 0, 0, 0), (70, 0, 0, 0), (72, 0, 0, 0), (75, 0, 0, 0), (76, 15, 1026, 0), (79, 0, 0, 0), (81, 0, 0, 0), (84, 0, 0, 0), (85, 9, 1024, 0), (88, 0, 0, 0), (89, 15, 1026, 0), (92, 0, 0, 0), (94, 0, 0, 0), (95, 0, 0, 0), (96, 0, 0, 0), (97, 0, 0, 0), (98, 0, 0, 0), (99, 15, 1026, 0), (102, 0, 0, 0), (103, 0, 0, 0), (104, 15, 1026, 0), (107, 0, 0, 0), (108, 0, 0, 0), (110, 0, 0, 0), (111, 0, 0, 0), (114, 0, 0, 0), (115, 0, 0, 0), (118, 0, 0, 0), (119, 0, 0, 0), (120, 0, 0, 0), (121, 0, 0, 0), (122, 15, 1026, 0), (125, 0, 0, 0), (126, 43, 1031, 0), (129, 0, 0, 0), (132, 0, 0, 0), (133, 0, 0, 0), (134, 0, 0, 0), (135, 46, 2129, 0), (138, 50, 2134, 0), (141, 0, 0, 0), (144, 0, 0, 0), (147, 0, 0, 0), (148, 0, 0, 0)]
def ab_x201 : List (Nat × Nat × Nat × Nat) := [(0, 0, 0, 0), (1, 15, 1026, 0), (4, 0, 0, 0), (7, 0, 0, 0), (8, 9, 1024, 0), (11, 0, 0, 0), (12, 15, 1026, 0), (15, 0, 0, 0), (16, 0, 0, 0), (17, 0, 0, 0), (18, 0, 0, 0), (19, 0, 0, 0), (22, 0, 0, 0), (23, 0, 0, 0), (24, 15, 1026, 0), (27, 0, 0, 0), (28, 0, 0, 0), (29, 15, 1026, 0), (32, 0, 0, 0), (35, 0, 0, 0)]
def ab_x202 : List (Nat × Nat × Nat × Nat) := [(0, 0, 0, 0), (1, 43, 1031, 0), (4, 0, 0, 0), (7, 0, 0, 0), (8, 15, 1026, 0), (11, 0, 0, 0), (12, 0, 0, 0), (13, 0, 0, 0), (14, 0, 0, 0), (15, 0, 0, 0), (16, 55, 2133, 9), (18, 0, 0, 0), (19, 0, 0, 0), (20, 0, 0, 0), (22, 0, 0, 0), (24, 0, 0, 0), (25, 15, 1026, 0), (28, 0, 0, 0), (29, 0, 0, 0), (30, 0, 0, 0), (33, 0, 0, 0), (34, 0, 0, 0), (36, 0, 0, 0), (39, 0, 0, 0), (40, 9, 1024, 0), (43, 0, 0, 0), (45, 0, 0, 0), (46, 0, 0, 0), (47, 0, 0, 0), (48, 0, 0, 0), (51, 0, 0, 0), (52, 0, 0, 0), (53, 9, 1024, 0), (56, 0, 0, 0), (58, 0, 0, 0), (59, 0, 0, 0), (60, 0, 0, 0), (61, 36, 2125, 1), (64, 0, 0, 0), (66, 0, 0, 0), (68, 0, 0, 0), (69, 0, 0, 0), (72, 0, 0, 0), (74, 0, 0, 0), (75, 0, 0, 0), (77, 0, 0, 0), (78, 0, 0, 0), (81, 0, 0, 0), (84, 0, 0, 0), (85, 0, 0, 0)]
def ab_x203 : List (Nat × Nat × Nat × Nat) := [(0, 0, 0, 0), (1, 0, 0, 0), (2, 0, 0, 0), (3, 0, 0, 0), (4, 0, 0, 0), (5, 0, 0, 0), (6, 15, 1026, 0), (9, 0, 0, 0), (12, 0, 0, 0), (13, 9, 1024, 0), (16, 0, 0, 0), (17, 0, 0, 0), (18, 0, 0, 0), (19, 0, 0, 0), (20, 9, 1024, 0), (23, 0, 0, 0), (24, 0, 0, 0), (25, 0, 0, 0), (26, 0, 0, 0), (29, 0, 0, 0), (32, 0, 0, 0), (33, 0, 0, 0), (34, 15, 1026, 0), (37, 0, 0, 0), (38, 0, 0, 0), (39, 15, 1026, 0), (42, 0, 0, 0)]
def ab_x204 : List (Nat × Nat × Nat × Nat) := [(0, 0, 0, 0), (1, 0, 0, 0), (2, 0, 0, 0), (3, 0, 0, 0), (4, 0, 0, 0), (5, 0, 0, 0), (6, 15, 1026, 0), (9, 0, 0, 0), (12, 0, 0, 0), (13, 9, 1024, 0), (16, 0, 0, 0), (17, 0, 0, 0), (18, 0, 0, 0), (19, 0, 0, 0), (22, 0, 0, 0), (23, 9, 1024, 0), (26, 0, 0, 0), (27, 0, 0, 0), (28, 0, 0, 0), (29, 0, 0, 0), (32, 0, 0, 0), (35, 0, 0, 0), (36, 0, 0, 0)]
def ab_x205 : List (Nat × Nat × Nat × Nat) := [(0, 0, 0, 0), (1, 0, 0, 0), (2, 0, 0, 0), (3, 0, 0, 0), (4, 15, 1026, 0), (7, 0, 0, 0), (10, 0, 0, 0), (11, 9, 1024, 0), (14, 0, 0, 0), (15, 0, 0, 0), (16, 0, 0, 0), (17, 0, 0, 0), (20, 0, 0, 0), (21, 9, 1024, 0), (24, 0, 0, 0), (25, 0, 0, 0), (26, 0, 0, 0), (27, 0, 0, 0), (30, 0, 0, 0), (33, 0, 0, 0), (34, 0, 0, 0)]
def ab_x206 : List (Nat × Nat × Nat × Nat) := [(0, 0, 0, 0), (1, 3, 233, 0), (4, 0, 0, 0), (5, 0, 0, 0), (7, 0, 0, 0), (9, 9, 234, 0), (12, 0, 0, 0), (13, 0, 0, 0), (15, 0, 0, 0), (17, 15, 236, 0), (20, 0, 0, 0), (21, 0, 0, 0), (23, 0, 0, 0), (25, 18, 237, 0), (28, 0, 0, 0), (29, 0, 0, 0), (31, 0, 0, 0), (33, 21, 238, 0), (36, 0, 0, 0), (37, 0, 0, 0), (39, 0, 0, 0), (41, 24, 239, 0), (44, 0, 0, 0)]
def ab_x207 : List (Nat × Nat × Nat × Nat) := [(0, 0, 0, 0), (1, 0, 0, 0), (2, 0, 0, 0), (3, 0, 0, 0), (5, 0, 0, 0), (8, 0, 0, 0), (9, 9, 234, 0), (12, 0, 0, 0), (13, 0, 0, 0), (14, 0, 0, 0), (15, 0, 0, 0), (16, 15, 236, 0), (19, 0, 0, 0), (20, 0, 0, 0), (21, 0, 0, 0), (22, 0, 0, 0), (23, 18, 237, 0), (26, 0, 0, 0), (27, 0, 0, 0), (28, 0, 0, 0), (29, 0, 0, 0), (30, 21, 238, 0), (33, 0, 0, 0), (34, 0, 0, 0), (35, 0, 0, 0), (36, 0, 0, 0), (39, 0, 0, 0), (42, 0, 0, 0), (43, 0, 0, 0), (44, 27, 1001, 0), (47, 0, 0, 0), (48, 0, 0, 0), (49, 31, 1002, 0), (52, 0, 0, 0)]
def ab_x208 : List (Nat × Nat × Nat × Nat) := [(0, 0, 0, 0), (1, 0, 0, 0), (2, 0, 0, 0), (4, 34, 2142, 0), (7, 0, 0, 0), (8, 0, 0, 0), (10, 0, 0, 0), (12, 0, 0, 0), (13, 0, 0, 0), (16, 0, 0, 0), (17, 0, 0, 0), (18, 0, 0, 0), (20, 38, 2146, 0), (23, 0, 0, 0), (26, 0, 0, 0), (29, 0, 0, 0)]
def ab_x209 : List (Nat × Nat × Nat × Nat) := [(0, 0, 0, 0), (1, 24, 239, 0), (4, 0, 0, 0), (5, 0, 0, 0), (6, 0, 0, 0), (7, 0, 0, 0), (8, 0, 0, 0), (9, 0, 0, 0), (10, 42, 2150, 0), (13, 0, 0, 0), (16, 0, 0, 0), (17, 24, 239, 0), (20, 0, 0, 0), (21, 0, 0, 0), (22, 0, 0, 0), (23, 0, 0, 0), (24, 46, 2154, 0), (27, 0, 0, 0), (28, 0, 0, 0), (29, 24, 239, 0), (32, 0, 0, 0), (33, 0, 0, 0), (34, 0, 0, 0), (37, 0, 0, 0), (38, 0, 0, 0), (39, 0, 0, 0), (40, 50, 2162, 0), (43, 0, 0, 0)]
def ab_x210 : List (Nat × Nat × Nat × Nat) := [(0, 0, 0, 0), (1, 53, 197, 1), (4, 0, 0, 0), (5, 0, 0, 0), (6, 0, 0, 0), (7, 0, 0, 0), (8, 58, 172, 1), (11, 0, 0, 0), (12, 0, 0, 0), (13, 0, 0, 0), (15, 0, 0, 0), (18, 0, 0, 0), (19, 0, 0, 0), (20, 31, 1002, 0), (23, 0, 0, 0), (26, 0, 0, 0), (27, 0, 0, 0), (28, 0, 0, 0), (31, 0, 0, 0), (32, 0, 0, 0), (33, 27, 1001, 0), (36, 0, 0, 0), (39, 0, 0, 0), (40, 0, 0, 0), (43, 0, 0, 0), (44, 0, 0, 0)]
def ab_x211 : List (Nat × Nat × Nat × Nat) := [(0, 0, 0, 0), (1, 61, 194, 1), (4, 0, 0, 0), (5, 0, 0, 0), (6, 0, 0, 0), (9, 0, 0, 0), (10, 0, 0, 0), (11, 0, 0, 0), (12, 58, 172, 1), (15, 0, 0, 0), (16, 0, 0, 0), (17, 0, 0, 0), (18, 0, 0, 0), (19, 64, 176, 1), (22, 0, 0, 0), (23, 0, 0, 0), (24, 0, 0, 0), (26, 0, 0, 0), (27, 0, 0, 0), (30, 0, 0, 0), (31, 21, 238, 0), (34, 0, 0, 0), (36, 0, 0, 0), (37, 0, 0, 0), (40, 0, 0, 0), (41, 0, 0, 0), (44, 0, 0, 0), (45, 0, 0, 0), (46, 0, 0, 0), (47, 21, 238, 0), (50, 0, 0, 0), (52, 0, 0, 0), (53, 0, 0, 0), (56, 0, 0, 0), (57, 0, 0, 0), (59, 0, 0, 0), (62, 0, 0, 0), (63, 21, 238, 0), (66, 0, 0, 0), (67, 67, 180, 1), (70, 0, 0, 0), (71, 0, 0, 0), (72, 0, 0, 0), (73, 0, 0, 0), (76, 0, 0, 0), (77, 0, 0, 0), (78, 0, 0, 0), (79, 70, 190, 1), (82, 0, 0, 0), (83, 0, 0, 0), (84, 0, 0, 0), (85, 0, 0, 0), (86, 0, 0, 0), (88, 0, 0, 0), (89, 70, 190, 1), (92, 0, 0, 0), (93, 0, 0, 0), (94, 0, 0, 0), (95, 0, 0, 0), (96, 0, 0, 0), (97, 0, 0, 0), (98, 0, 0, 0), (100, 0, 0, 0), (101, 0, 0, 0), (102, 0, 0, 0), (104, 0, 0, 0), (106, 0, 0, 0), (108, 73, 2158, 0), (111, 0, 0, 0), (114, 0, 0, 0), (115, 0, 0, 0), (118, 0, 0, 0), (119, 0, 0, 0)]
def ab_x212 : List (Nat × Nat × Nat × Nat) := [(0, 0, 0, 0), (1, 0, 0, 0), (36, 0, 0, 0), (37, 9, 234, 0), (40, 0, 0, 0), (41, 0, 0, 0), (42, 0, 0, 0), (43, 0, 0, 0), (44, 0, 0, 0), (46, 0, 0, 0), (47, 0, 0, 0), (48, 15, 236, 0), (51, 0, 0, 0), (52, 0, 0, 0), (53, 0, 0, 0), (54, 0, 0, 0), (55, 18, 237, 0), (58, 0, 0, 0), (59, 0, 0, 0), (60, 0, 0, 0), (61, 0, 0, 0), (64, 0, 0, 0), (65, 0, 0, 0), (68, 0, 0, 0), (69, 0, 0, 0), (70, 0, 0, 0), (71, 15, 236, 0), (74, 0, 0, 0), (75, 0, 0, 0), (76, 0, 0, 0), (77, 0, 0, 0), (78, 0, 0, 0), (79, 9, 234, 0), (82, 0, 0, 0), (83, 0, 0, 0), (84, 0, 0, 0), (87, 0, 0, 0), (88, 0, 0, 0), (91, 0, 0, 0), (92, 0, 0, 0), (93, 0, 0, 0), (94, 15, 236, 0), (97, 0, 0, 0), (98, 0, 0, 0), (99, 0, 0, 0), (100, 0, 0, 0), (101, 0, 0, 0), (104, 0, 0, 0), (105, 0, 0, 0), (108, 0, 0, 0), (109, 0, 0, 0), (110, 0, 0, 0), (111, 9, 234, 0), (114, 0, 0, 0), (115, 0, 0, 0), (116, 0, 0, 0), (119, 0, 0, 0), (120, 15, 236, 0), (123, 0, 0, 0), (124, 0, 0, 0), (125, 0, 0, 0), (128, 0, 0, 0), (129, 0, 0, 0), (132, 0, 0, 0), (133, 0, 0, 0), (134, 0, 0, 0), (135, 0, 0, 0)]
def ab_x213 : List (Nat × Nat × Nat × Nat) := [(0, 0, 0, 0), (1, 64, 176, 1), (4, 0, 0, 0), (5, 0, 0, 0), (6, 0, 0, 0), (7, 0, 0, 0), (8, 70, 190, 1), (11, 0, 0, 0), (12, 0, 0, 0), (13, 0, 0, 0), (14, 0, 0, 0), (15, 0, 0, 0), (17, 0, 0, 0), (18, 70, 190, 1), (21, 0, 0, 0), (22, 0, 0, 0), (23, 0, 0, 0), (24, 0, 0, 0), (25, 0, 0, 0), (26, 0, 0, 0), (27, 0, 0, 0), (29, 0, 0, 0), (30, 58, 172, 1), (33, 0, 0, 0), (34, 0, 0, 0), (35, 0, 0, 0), (76, 0, 0, 0), (77, 21, 238, 0), (80, 0, 0, 0), (81, 0, 0, 0), (82, 0, 0, 0), (83, 0, 0, 0), (84, 18, 237, 0), (87, 0, 0, 0), (88, 0, 0, 0), (90, 0, 0, 0), (91, 0, 0, 0), (92, 9, 234, 0), (95, 0, 0, 0), (96, 0, 0, 0), (97, 0, 0, 0), (98, 0, 0, 0), (99, 15, 236, 0), (102, 0, 0, 0), (103, 0, 0, 0), (104, 0, 0, 0), (105, 0, 0, 0), (108, 0, 0, 0), (109, 9, 234, 0), (112, 0, 0, 0), (113, 0, 0, 0), (114, 0, 0, 0), (115, 0, 0, 0), (117, 0, 0, 0), (119, 0, 0, 0), (120, 0, 0, 0), (121, 0, 0, 0), (122, 0, 0, 0), (125, 0, 0, 0), (126, 9, 234, 0), (129, 0, 0, 0), (130, 0, 0, 0), (131, 0, 0, 0), (132, 0, 0, 0), (134, 0, 0, 0), (136, 0, 0, 0), (137, 0, 0, 0), (138, 0, 0, 0), (139, 0, 0, 0), (142, 0, 0, 0), (143, 15, 236, 0), (146, 0, 0, 0), (147, 0, 0, 0), (148, 0, 0, 0), (149, 0, 0, 0), (151, 0, 0, 0), (152, 0, 0, 0), (153, 0, 0, 0), (156, 0, 0, 0), (157, 15, 236, 0), (160, 0, 0, 0), (161, 0, 0, 0), (162, 0, 0, 0), (163, 0, 0, 0), (165, 0, 0, 0), (166, 0, 0, 0), (167, 0, 0, 0), (170, 0, 0, 0), (171, 9, 234, 0), (174, 0, 0, 0), (175, 0, 0, 0), (176, 0, 0, 0), (177, 0, 0, 0), (179, 0, 0, 0), (181, 0, 0, 0), (182, 0, 0, 0), (183, 0, 0, 0), (184, 0, 0, 0), (185, 9, 234, 0), (188, 0, 0, 0), (189, 67, 180, 1), (192, 0, 0, 0), (193, 0, 0, 0), (194, 0, 0, 0), (195, 0, 0, 0), (196, 0, 0, 0), (198, 0, 0, 0), (199, 0, 0, 0), (200, 0, 0, 0), (203, 0, 0, 0), (204, 21, 238, 0), (207, 0, 0, 0), (208, 0, 0, 0), (209, 0, 0, 0), (210, 0, 0, 0)]
def ab_x214 : List (Nat × Nat × Nat × Nat) := [(0, 0, 0, 0), (1, 0, 0, 0), (32, 0, 0, 0), (33, 9, 234, 0), (36, 0, 0, 0), (37, 0, 0, 0), (38, 0, 0, 0), (39, 0, 0, 0), (40, 15, 236, 0), (43, 0, 0, 0), (44, 0, 0, 0), (45, 0, 0, 0), (46, 0, 0, 0), (47, 18, 237, 0), (50, 0, 0, 0), (51, 0, 0, 0), (52, 0, 0, 0), (53, 0, 0, 0), (54, 21, 238, 0), (57, 0, 0, 0), (58, 0, 0, 0), (59, 0, 0, 0), (60, 77, 3004, 9), (62, 0, 0, 0)]
def ab_x215 : List (Nat × Nat × Nat × Nat) := [(0, 0, 0, 0), (1, 0, 0, 0), (2, 0, 0, 0), (3, 0, 0, 0), (5, 0, 0, 0), (7, 0, 0, 0), (8, 0, 0, 0), (11, 0, 0, 0), (12, 24, 239, 0), (15, 0, 0, 0), (17, 0, 0, 0), (18, 0, 0, 0), (21, 0, 0, 0), (24, 0, 0, 0), (27, 0, 0, 0), (30, 0, 0, 0), (31, 0, 0, 0)]
def ab_x216 : List (Nat × Nat × Nat × Nat) := [(0, 0, 0, 0), (1, 0, 0, 0), (2, 0, 0, 0), (3, 0, 0, 0), (4, 0, 0, 0), (5, 0, 0, 0), (7, 0, 0, 0), (10, 0, 0, 0), (11, 0, 0, 0), (12, 21, 238, 0), (15, 0, 0, 0), (16, 0, 0, 0), (17, 0, 0, 0), (18, 0, 0, 0), (19, 0, 0, 0), (22, 0, 0, 0), (25, 0, 0, 0), (26, 0, 0, 0)]
def ab_x217 : List (Nat × Nat × Nat × Nat) := [(0, 0, 0, 0), (1, 0, 0, 0), (2, 0, 0, 0), (3, 0, 0, 0), (4, 0, 0, 0), (5, 0, 0, 0), (7, 0, 0, 0), (10, 0, 0, 0), (11, 0, 0, 0), (12, 9, 234, 0), (15, 0, 0, 0), (16, 0, 0, 0), (17, 0, 0, 0), (18, 0, 0, 0), (19, 0, 0, 0), (22, 0, 0, 0), (25, 0, 0, 0), (26, 0, 0, 0)]
def ab_x218 : List (Nat × Nat × Nat × Nat) := [(0, 0, 0, 0), (1, 3, 1046, 0), (4, 0, 0, 0), (5, 0, 0, 0), (6, 0, 0, 0), (8, 9, 1047, 0), (11, 0, 0, 0), (12, 0, 0, 0), (14, 0, 0, 0), (16, 15, 1049, 0), (19, 0, 0, 0)]
def ab_x219 : List (Nat × Nat × Nat × Nat) := [(0, 0, 0, 0), (1, 0, 0, 0), (2, 0, 0, 0), (3, 0, 0, 0), (4, 0, 0, 0), (7, 0, 0, 0), (8, 0, 0, 0), (9, 18, 2101, 0), (12, 0, 0, 0), (15, 0, 0, 0), (18, 0, 0, 0)]
def ab_x220 : List (Nat × Nat × Nat × Nat) := [(0, 0, 0, 0), (1, 9, 1047, 0), (4, 0, 0, 0), (5, 0, 0, 0), (6, 0, 0, 0), (7, 0, 0, 0), (8, 0, 0, 0), (9, 0, 0, 0), (10, 0, 0, 0), (12, 0, 0, 0), (15, 0, 0, 0), (16, 0, 0, 0), (17, 0, 0, 0), (18, 22, 2105, 0), (21, 0, 0, 0), (24, 0, 0, 0), (27, 0, 0, 0)]
def ab_x221 : List (Nat × Nat × Nat × Nat) := [(0, 0, 0, 0), (1, 15, 1049, 0), (4, 0, 0, 0), (5, 0, 0, 0), (6, 0, 0, 0), (7, 0, 0, 0), (8, 0, 0, 0), (9, 0, 0, 0), (10, 0, 0, 0), (11, 0, 0, 0), (12, 0, 0, 0)]
def ab_x222 : List (Nat × Nat × Nat × Nat) := [(0, 0, 0, 0), (1, 15, 1049, 0), (4, 0, 0, 0), (5, 0, 0, 0), (6, 0, 0, 0), (7, 0, 0, 0), (8, 0, 0, 0), (9, 0, 0, 0), (10, 0, 0, 0), (11, 0, 0, 0), (12, 0, 0, 0), (13, 0, 0, 0), (14, 0, 0, 0)]
def ab_x223 : List (Nat × Nat × Nat × Nat) := [(0, 0, 0, 0), (1, 15, 1049, 0), (4, 0, 0, 0), (5, 0, 0, 0), (6, 0, 0, 0), (7, 0, 0, 0), (8, 0, 0, 0), (9, 0, 0, 0), (10, 0, 0, 0), (13, 0, 0, 0), (14, 0, 0, 0), (17, 0, 0, 0), (18, 0, 0, 0)]
def ab_x224 : List (Nat × Nat × Nat × Nat) := [(0, 0, 0, 0), (1, 0, 0, 0), (2, 0, 0, 0), (3, 0, 0, 0), (4, 0, 0, 0), (5, 0, 0, 0), (7, 0, 0, 0), (10, 0, 0, 0), (11, 0, 0, 0), (12, 15, 1049, 0), (15, 0, 0, 0), (16, 0, 0, 0), (17, 0, 0, 0), (18, 0, 0, 0), (19, 0, 0, 0), (20, 0, 0, 0), (21, 0, 0, 0), (22, 0, 0, 0), (23, 0, 0, 0), (26, 0, 0, 0), (29, 0, 0, 0), (30, 0, 0, 0)]
def ab_x225 : List (Nat × Nat × Nat × Nat) := [(0, 0, 0, 0), (1, 9, 1047, 0), (4, 0, 0, 0), (5, 0, 0, 0), (6, 9, 1047, 0), (9, 0, 0, 0), (10, 0, 0, 0), (11, 26, 2220, 0), (14, 0, 0, 0), (15, 15, 1049, 0), (18, 0, 0, 0), (19, 0, 0, 0), (20, 15, 1049, 0), (23, 0, 0, 0), (24, 0, 0, 0), (26, 26, 2220, 0), (29, 0, 0, 0)]
def ab_x226 : List (Nat × Nat × Nat × Nat) := [(0, 0, 0, 0), (1, 3, 111, 0), (4, 0, 0, 0), (5, 0, 0, 0), (7, 0, 0, 0), (9, 9, 112, 0), (12, 0, 0, 0), (13, 0, 0, 0), (14, 0, 0, 0), (16, 15, 116, 0), (19, 0, 0, 0), (20, 0, 0, 0), (21, 0, 0, 0), (23, 18, 117, 0), (26, 0, 0, 0), (27, 0, 0, 0), (28, 0, 0, 0), (30, 21, 119, 0), (33, 0, 0, 0), (34, 0, 0, 0), (36, 0, 0, 0), (38, 24, 124, 0), (41, 0, 0, 0), (42, 0, 0, 0), (44, 0, 0, 0), (46, 27, 125, 0), (49, 0, 0, 0), (50, 0, 0, 0), (52, 0, 0, 0), (54, 30, 126, 0), (57, 0, 0, 0), (58, 0, 0, 0), (60, 0, 0, 0), (62, 33, 127, 0), (65, 0, 0, 0), (66, 0, 0, 0), (68, 36, 128, 0), (71, 0, 0, 0), (72, 0, 0, 0), (73, 40, 131, 0), (76, 0, 0, 0)]
def ab_x227 : List (Nat × Nat × Nat × Nat) := [(0, 0, 0, 0), (1, 0, 0, 0), (2, 43, 113, 0), (5, 0, 0, 0), (6, 0, 0, 0), (7, 46, 121, 0), (10, 0, 0, 0), (11, 0, 0, 0), (12, 0, 0, 0), (13, 0, 0, 0), (15, 0, 0, 0), (18, 0, 0, 0), (19, 24, 124, 0), (22, 0, 0, 0), (23, 0, 0, 0), (24, 0, 0, 0), (25, 0, 0, 0), (28, 0, 0, 0), (31, 0, 0, 0), (32, 0, 0, 0), (34, 36, 128, 0), (37, 0, 0, 0), (38, 0, 0, 0), (39, 40, 131, 0), (42, 0, 0, 0), (43, 0, 0, 0), (44, 49, 134, 0), (47, 0, 0, 0)]
def ab_x228 : List (Nat × Nat × Nat × Nat) := [(0, 0, 0, 0), (1, 9, 112, 0), (4, 0, 0, 0), (5, 43, 113, 0), (8, 0, 0, 0), (9, 52, 1222, 0), (12, 0, 0, 0)]
def ab_x229 : List (Nat × Nat × Nat × Nat) := [(0, 0, 0, 0), (1, 15, 116, 0), (4, 0, 0, 0), (5, 46, 121, 0), (8, 0, 0, 0), (9, 52, 1222, 0), (12, 0, 0, 0)]
def ab_x230 : List (Nat × Nat × Nat × Nat) := [(0, 0, 0, 0), (1, 0, 0, 0), (2, 0, 0, 0), (3, 0, 0, 0), (4, 0, 0, 0), (7, 0, 0, 0), (8, 0, 0, 0), (9, 0, 0, 0), (10, 0, 0, 0), (13, 0, 0, 0), (14, 0, 0, 0), (15, 0, 0, 0), (16, 0, 0, 0), (17, 0, 0, 0), (20, 0, 0, 0), (21, 0, 0, 0), (22, 0, 0, 0), (25, 0, 0, 0), (28, 0, 0, 0), (29, 0, 0, 0)]
def ab_x231 : List (Nat × Nat × Nat × Nat) := [(0, 0, 0, 0), (1, 43, 113, 0), (4, 0, 0, 0), (6, 0, 0, 0), (9, 0, 0, 0), (10, 9, 112, 0), (13, 0, 0, 0), (14, 43, 113, 0), (17, 0, 0, 0), (18, 0, 0, 0), (19, 0, 0, 0), (20, 0, 0, 0), (21, 43, 113, 0), (24, 0, 0, 0), (25, 0, 0, 0), (26, 43, 113, 0), (29, 0, 0, 0)]
def ab_x232 : List (Nat × Nat × Nat × Nat) := [(0, 0, 0, 0), (1, 46, 121, 0), (4, 0, 0, 0), (5, 0, 0, 0), (8, 0, 0, 0), (9, 15, 116, 0), (12, 0, 0, 0), (13, 46, 121, 0), (16, 0, 0, 0), (17, 0, 0, 0), (18, 0, 0, 0), (19, 18, 117, 0), (22, 0, 0, 0), (23, 46, 121, 0), (26, 0, 0, 0), (27, 0, 0, 0), (28, 0, 0, 0), (29, 21, 119, 0), (32, 0, 0, 0), (33, 46, 121, 0), (36, 0, 0, 0), (37, 0, 0, 0), (38, 0, 0, 0), (39, 0, 0, 0), (40, 46, 121, 0), (43, 0, 0, 0), (44, 0, 0, 0), (45, 46, 121, 0), (48, 0, 0, 0)]
def ab_x233 : List (Nat × Nat × Nat × Nat) := [(0, 0, 0, 0), (1, 0, 0, 0), (2, 0, 0, 0), (3, 0, 0, 0), (4, 0, 0, 0), (5, 0, 0, 0), (6, 0, 0, 0), (7, 0, 0, 0)]
def ab_x234 : List (Nat × Nat × Nat × Nat) := [(0, 0, 0, 0), (1, 24, 124, 0), (4, 0, 0, 0), (5, 0, 0, 0), (6, 56, 2009, 0), (9, 0, 0, 0), (10, 0, 0, 0)]
def ab_x235 : List (Nat × Nat × Nat × Nat) := [(0, 0, 0, 0), (1, 0, 0, 0), (2, 56, 2009, 0), (5, 0, 0, 0), (7, 0, 0, 0), (8, 24, 124, 0), (11, 0, 0, 0), (13, 0, 0, 0), (14, 0, 0, 0), (15, 0, 0, 0), (18, 0, 0, 0), (19, 0, 0, 0), (21, 0, 0, 0), (22, 0, 0, 0), (23, 24, 124, 0), (26, 0, 0, 0), (28, 0, 0, 0), (29, 0, 0, 0), (30, 0, 0, 0), (32, 0, 0, 0), (33, 27, 125, 0), (36, 0, 0, 0), (38, 0, 0, 0), (39, 0, 0, 0), (40, 0, 0, 0), (41, 30, 126, 0), (44, 0, 0, 0), (46, 0, 0, 0), (48, 0, 0, 0), (49, 0, 0, 0), (50, 33, 127, 0), (53, 0, 0, 0), (55, 0, 0, 0), (57, 0, 0, 0), (58, 0, 0, 0), (59, 24, 124, 0), (62, 0, 0, 0), (64, 0, 0, 0), (65, 0, 0, 0), (66, 0, 0, 0), (67, 0, 0, 0), (68, 0, 0, 0), (69, 0, 0, 0)]
def ab_x236 : List (Nat × Nat × Nat × Nat) := [(0, 0, 0, 0), (1, 0, 0, 0), (2, 60, 2088, 1), (5, 0, 0, 0), (6, 66, 174, 1), (9, 0, 0, 0), (10, 0, 0, 0), (11, 0, 0, 0), (13, 0, 0, 0), (15, 0, 0, 0), (17, 0, 0, 0), (20, 0, 0, 0), (21, 0, 0, 0), (22, 69, 186, 1), (25, 0, 0, 0), (26, 0, 0, 0), (27, 0, 0, 0), (29, 0, 0, 0), (31, 0, 0, 0), (32, 0, 0, 0), (35, 0, 0, 0), (37, 0, 0, 0), (39, 56, 2009, 0), (42, 0, 0, 0), (44, 0, 0, 0), (46, 0, 0, 0), (47, 0, 0, 0), (50, 0, 0, 0), (52, 0, 0, 0), (54, 0, 0, 0), (57, 0, 0, 0), (58, 0, 0, 0), (61, 0, 0, 0), (62, 24, 124, 0), (65, 0, 0, 0), (67, 0, 0, 0), (68, 0, 0, 0), (70, 0, 0, 0), (71, 0, 0, 0), (73, 0, 0, 0), (75, 0, 0, 0), (77, 0, 0, 0), (80, 0, 0, 0), (81, 0, 0, 0), (83, 0, 0, 0), (84, 0, 0, 0), (86, 0, 0, 0), (87, 0, 0, 0), (89, 0, 0, 0), (90, 0, 0, 0), (91, 0, 0, 0), (92, 0, 0, 0), (93, 0, 0, 0), (94, 0, 0, 0), (96, 72, 2092, 0), (99, 0, 0, 0), (100, 76, 192, 1), (103, 0, 0, 0), (104, 0, 0, 0), (105, 0, 0, 0), (106, 0, 0, 0), (107, 30, 126, 0), (110, 0, 0, 0), (112, 0, 0, 0), (113, 0, 0, 0), (114, 0, 0, 0), (115, 0, 0, 0), (116, 0, 0, 0), (117, 79, 2096, 9), (119, 0, 0, 0), (122, 0, 0, 0), (123, 80, 195, 1), (126, 0, 0, 0), (127, 0, 0, 0), (128, 0, 0, 0), (129, 0, 0, 0), (130, 0, 0, 0), (133, 0, 0, 0), (136, 0, 0, 0), (139, 0, 0, 0), (142, 0, 0, 0)]
def ab_x237 : List (Nat × Nat × Nat × Nat) := [(0, 0, 0, 0), (1, 0, 0, 0), (2, 30, 126, 0), (5, 0, 0, 0), (6, 0, 0, 0), (7, 0, 0, 0), (8, 0, 0, 0), (9, 0, 0, 0), (10, 0, 0, 0), (12, 0, 0, 0), (13, 33, 127, 0), (16, 0, 0, 0), (17, 0, 0, 0), (18, 0, 0, 0), (20, 0, 0, 0), (21, 27, 125, 0), (24, 0, 0, 0), (25, 0, 0, 0), (26, 0, 0, 0), (52, 0, 0, 0), (53, 76, 192, 1), (56, 0, 0, 0), (58, 0, 0, 0), (60, 0, 0, 0), (61, 0, 0, 0), (64, 0, 0, 0), (65, 76, 192, 1), (68, 0, 0, 0), (70, 0, 0, 0), (71, 0, 0, 0), (72, 0, 0, 0), (74, 0, 0, 0), (75, 0, 0, 0), (76, 0, 0, 0), (79, 0, 0, 0), (80, 76, 192, 1), (83, 0, 0, 0), (85, 0, 0, 0), (86, 0, 0, 0), (87, 0, 0, 0), (89, 0, 0, 0), (90, 0, 0, 0), (91, 0, 0, 0), (94, 0, 0, 0), (95, 76, 192, 1), (98, 0, 0, 0), (100, 0, 0, 0), (101, 76, 192, 1), (104, 0, 0, 0), (105, 0, 0, 0), (107, 0, 0, 0), (108, 0, 0, 0), (109, 0, 0, 0), (110, 0, 0, 0), (111, 0, 0, 0), (112, 0, 0, 0)]
def ab_x238 : List (Nat × Nat × Nat × Nat) := [(0, 0, 0, 0), (1, 1, 44, 0), (4, 0, 0, 0), (5, 7, 45, 0), (8, 13, 54, 0), (11, 0, 0, 0), (12, 0, 0, 0), (13, 18, 47, 0), (16, 0, 0, 0)]
def ab_x239 : List (Nat × Nat × Nat × Nat) := [(0, 0, 0, 0), (1, 0, 0, 0), (2, 0, 0, 0), (3, 18, 47, 0), (6, 0, 0, 0), (7, 22, 1161, 0), (10, 28, 48, 0), (13, 0, 0, 0), (14, 0, 0, 0), (15, 32, 49, 0), (18, 0, 0, 0), (19, 35, 1164, 0), (22, 0, 0, 0)]
def ab_x240 : List (Nat × Nat × Nat × Nat) := [(0, 0, 0, 0), (1, 32, 49, 0), (4, 0, 0, 0), (5, 28, 48, 0), (8, 0, 0, 0), (11, 0, 0, 0), (12, 18, 47, 0), (15, 0, 0, 0), (16, 32, 49, 0), (19, 0, 0, 0), (20, 0, 0, 0), (22, 0, 0, 0), (25, 0, 0, 0), (26, 18, 47, 0), (29, 0, 0, 0), (30, 32, 49, 0), (33, 0, 0, 0), (34, 0, 0, 0), (36, 0, 0, 0), (39, 0, 0, 0), (40, 0, 0, 0), (41, 32, 49, 0), (44, 0, 0, 0), (45, 0, 0, 0), (46, 32, 49, 0), (49, 0, 0, 0), (52, 0, 0, 0), (53, 0, 0, 0), (54, 32, 49, 0), (57, 38, 52, 0), (60, 0, 0, 0), (61, 32, 49, 0), (64, 0, 0, 0), (65, 28, 48, 0), (68, 0, 0, 0), (71, 0, 0, 0), (72, 0, 0, 0), (73, 41, 51, 0), (76, 0, 0, 0), (79, 0, 0, 0), (80, 18, 47, 0), (83, 0, 0, 0), (84, 32, 49, 0), (87, 0, 0, 0), (88, 44, 1168, 0), (91, 0, 0, 0), (94, 0, 0, 0), (95, 48, 1171, 0), (98, 0, 0, 0), (101, 0, 0, 0), (102, 18, 47, 0), (105, 0, 0, 0), (106, 32, 49, 0), (109, 0, 0, 0), (110, 51, 1177, 0), (113, 0, 0, 0), (116, 0, 0, 0), (117, 54, 1180, 0), (120, 0, 0, 0), (123, 0, 0, 0), (124, 0, 0, 0), (125, 18, 47, 0), (128, 0, 0, 0), (129, 32, 49, 0), (132, 0, 0, 0), (133, 0, 0, 0), (135, 0, 0, 0), (138, 0, 0, 0), (139, 0, 0, 0), (142, 0, 0, 0), (143, 41, 51, 0), (146, 0, 0, 0), (147, 0, 0, 0), (148, 32, 49, 0), (151, 0, 0, 0), (152, 0, 0, 0), (153, 32, 49, 0), (156, 0, 0, 0)]
def ab_x241 : List (Nat × Nat × Nat × Nat) := [(0, 0, 0, 0), (1, 0, 0, 0), (2, 0, 0, 0), (3, 32, 49, 0), (6, 0, 0, 0), (7, 28, 48, 0), (10, 0, 0, 0), (13, 0, 0, 0), (14, 18, 47, 0), (17, 0, 0, 0), (18, 32, 49, 0), (21, 0, 0, 0), (22, 44, 1168, 0), (25, 0, 0, 0), (28, 0, 0, 0), (29, 32, 49, 0), (32, 0, 0, 0), (33, 38, 52, 0), (36, 0, 0, 0), (37, 0, 0, 0), (39, 0, 0, 0), (42, 0, 0, 0), (43, 0, 0, 0), (44, 0, 0, 0), (45, 0, 0, 0), (46, 18, 47, 0), (49, 0, 0, 0), (50, 32, 49, 0), (53, 0, 0, 0), (54, 0, 0, 0), (56, 0, 0, 0), (57, 0, 0, 0), (58, 0, 0, 0), (59, 0, 0, 0), (60, 0, 0, 0), (61, 0, 0, 0), (62, 0, 0, 0), (63, 0, 0, 0), (64, 32, 49, 0), (67, 0, 0, 0), (68, 0, 0, 0), (69, 32, 49, 0), (72, 0, 0, 0), (75, 0, 0, 0), (76, 32, 49, 0), (79, 0, 0, 0), (80, 38, 52, 0), (83, 0, 0, 0), (84, 0, 0, 0), (85, 0, 0, 0), (86, 0, 0, 0), (87, 0, 0, 0), (89, 0, 0, 0), (92, 0, 0, 0), (93, 0, 0, 0), (96, 0, 0, 0), (97, 41, 51, 0), (100, 0, 0, 0), (101, 0, 0, 0), (102, 0, 0, 0), (104, 0, 0, 0), (107, 0, 0, 0), (108, 0, 0, 0), (109, 0, 0, 0), (111, 0, 0, 0), (112, 0, 0, 0), (113, 0, 0, 0), (114, 0, 0, 0), (115, 0, 0, 0), (116, 0, 0, 0), (119, 0, 0, 0), (120, 57, 56, 0), (123, 0, 0, 0), (124, 0, 0, 0), (126, 0, 0, 0), (128, 60, 1175, 1), (131, 0, 0, 0), (132, 0, 0, 0), (135, 0, 0, 0), (136, 0, 0, 0), (138, 0, 0, 0), (141, 60, 1175, 1), (144, 0, 0, 0), (146, 0, 0, 0), (147, 66, 6207, 1), (150, 0, 0, 0), (151, 0, 0, 0), (152, 0, 0, 0), (155, 0, 0, 0), (156, 0, 0, 0), (157, 41, 51, 0), (160, 0, 0, 0), (161, 60, 1175, 1), (164, 0, 0, 0), (166, 0, 0, 0), (167, 13, 54, 0), (170, 0, 0, 0), (173, 0, 0, 0), (176, 0, 0, 0)]
def ab_x242 : List (Nat × Nat × Nat × Nat) := [(0, 0, 0, 0), (1, 0, 0, 0), (2, 70, 58, 0), (5, 0, 0, 0), (6, 32, 49, 0), (9, 0, 0, 0), (10, 28, 48, 0), (13, 0, 0, 0), (16, 0, 0, 0), (17, 18, 47, 0), (20, 0, 0, 0), (21, 32, 49, 0), (24, 0, 0, 0), (25, 51, 1177, 0), (28, 0, 0, 0), (31, 0, 0, 0), (32, 70, 58, 0), (35, 73, 1184, 9), (37, 0, 0, 0), (40, 0, 0, 0), (41, 0, 0, 0), (43, 0, 0, 0), (44, 70, 58, 0), (47, 0, 0, 0), (48, 0, 0, 0), (49, 18, 47, 0), (52, 0, 0, 0), (53, 32, 49, 0), (56, 0, 0, 0), (57, 0, 0, 0), (58, 0, 0, 0), (60, 0, 0, 0), (61, 70, 58, 0), (64, 0, 0, 0), (65, 0, 0, 0), (66, 32, 49, 0), (69, 0, 0, 0), (70, 0, 0, 0), (71, 32, 49, 0), (74, 0, 0, 0), (77, 0, 0, 0), (78, 0, 0, 0), (79, 41, 51, 0), (82, 0, 0, 0)]
def ab_x243 : List (Nat × Nat × Nat × Nat) := [(0, 0, 0, 0), (1, 0, 0, 0), (3, 0, 0, 0), (6, 0, 0, 0), (7, 0, 0, 0), (9, 0, 0, 0), (12, 0, 0, 0), (13, 0, 0, 0), (16, 0, 0, 0), (17, 0, 0, 0)]
def ab_x244 : List (Nat × Nat × Nat × Nat) := [(0, 0, 0, 0), (1, 0, 0, 0), (3, 0, 0, 0), (6, 0, 0, 0), (7, 0, 0, 0), (9, 0, 0, 0), (12, 0, 0, 0), (13, 0, 0, 0), (16, 0, 0, 0), (17, 0, 0, 0)]
def ab_x245 : List (Nat × Nat × Nat × Nat) := [(0, 0, 0, 0), (1, 0, 0, 0), (2, 0, 0, 0), (3, 0, 0, 0), (4, 0, 0, 0), (5, 7, 3204, 0), (8, 0, 0, 0), (9, 0, 0, 0), (10, 0, 0, 0), (13, 0, 0, 0), (15, 0, 0, 0), (16, 0, 0, 0), (17, 0, 0, 0), (19, 0, 0, 0), (20, 0, 0, 0), (21, 0, 0, 0), (22, 0, 0, 0)]
def ab_x246 : List (Nat × Nat × Nat × Nat) := [(0, 8, 25, 0), (3, 0, 0, 0), (4, 17, 27, 0), (7, 0, 0, 0), (8, 18, 4050, 0), (11, 0, 0, 0), (12, 20, 4052, 0), (15, 0, 0, 0), (16, 0, 0, 0), (17, 0, 0, 0), (19, 0, 0, 0), (20, 0, 0, 0), (21, 0, 0, 0), (23, 0, 0, 0), (25, 0, 0, 0), (26, 0, 0, 0), (27, 0, 0, 0), (29, 0, 0, 0), (30, 0, 0, 0), (33, 0, 0, 0), (34, 0, 0, 0), (36, 0, 0, 0), (37, 0, 0, 0), (39, 0, 0, 0), (40, 0, 0, 0), (192, 0, 0, 0), (193, 0, 0, 0), (194, 0, 0, 0), (196, 0, 0, 0), (197, 0, 0, 0), (198, 0, 0, 0), (199, 0, 0, 0), (200, 0, 0, 0), (202, 0, 0, 0), (203, 0, 0, 0), (204, 0, 0, 0), (205, 0, 0, 0), (206, 0, 0, 0), (208, 0, 0, 0), (209, 0, 0, 0), (210, 0, 0, 0), (211, 0, 0, 0), (212, 0, 0, 0), (214, 0, 0, 0), (215, 0, 0, 0), (216, 0, 0, 0), (217, 0, 0, 0), (218, 0, 0, 0), (220, 0, 0, 0), (221, 0, 0, 0), (222, 0, 0, 0), (223, 21, 1133, 0), (226, 0, 0, 0), (227, 0, 0, 0), (228, 0, 0, 0), (230, 0, 0, 0), (231, 0, 0, 0), (232, 0, 0, 0), (233, 0, 0, 0), (234, 0, 0, 0), (236, 0, 0, 0), (237, 0, 0, 0), (238, 0, 0, 0), (239, 0, 0, 0), (240, 0, 0, 0), (242, 0, 0, 0), (243, 0, 0, 0), (244, 0, 0, 0), (245, 0, 0, 0), (246, 0, 0, 0), (248, 0, 0, 0), (249, 0, 0, 0), (250, 0, 0, 0), (251, 0, 0, 0), (252, 0, 0, 0), (254, 0, 0, 0), (255, 0, 0, 0), (256, 0, 0, 0), (257, 25, 5016, 0), (260, 0, 0, 0), (263, 0, 0, 0), (264, 0, 0, 0), (265, 0, 0, 0), (266, 0, 0, 0), (267, 0, 0, 0), (269, 0, 0, 0), (270, 0, 0, 0), (271, 0, 0, 0), (272, 26, 1141, 0), (275, 0, 0, 0), (276, 0, 0, 0), (277, 0, 0, 0), (279, 0, 0, 0), (280, 0, 0, 0), (281, 0, 0, 0), (282, 30, 5020, 0), (285, 0, 0, 0), (288, 0, 0, 0), (289, 0, 0, 0), (290, 0, 0, 0), (291, 0, 0, 0), (292, 0, 0, 0), (294, 0, 0, 0), (295, 0, 0, 0), (296, 0, 0, 0), (297, 31, 2166, 0), (300, 0, 0, 0), (301, 0, 0, 0), (302, 0, 0, 0), (304, 0, 0, 0), (305, 0, 0, 0), (306, 0, 0, 0), (307, 34, 5166, 0), (310, 0, 0, 0), (313, 0, 0, 0), (314, 0, 0, 0), (315, 0, 0, 0), (316, 0, 0, 0), (317, 0, 0, 0), (319, 0, 0, 0), (320, 0, 0, 0), (321, 0, 0, 0), (322, 0, 0, 0), (323, 0, 0, 0), (325, 0, 0, 0), (326, 0, 0, 0), (327, 0, 0, 0), (328, 35, 2170, 0), (331, 0, 0, 0), (332, 0, 0, 0), (333, 0, 0, 0), (335, 0, 0, 0), (336, 0, 0, 0), (337, 0, 0, 0), (338, 0, 0, 0), (339, 0, 0, 0), (341, 0, 0, 0), (342, 0, 0, 0), (343, 0, 0, 0), (344, 38, 5170, 0), (347, 0, 0, 0), (350, 0, 0, 0), (351, 0, 0, 0), (352, 0, 0, 0), (353, 0, 0, 0), (354, 0, 0, 0), (356, 0, 0, 0), (357, 0, 0, 0), (358, 0, 0, 0), (359, 0, 0, 0), (360, 0, 0, 0), (362, 0, 0, 0), (363, 0, 0, 0), (364, 0, 0, 0), (365, 0, 0, 0), (366, 0, 0, 0), (368, 0, 0, 0), (369, 0, 0, 0), (370, 0, 0, 0), (371, 0, 0, 0), (372, 0, 0, 0), (374, 0, 0, 0), (375, 0, 0, 0), (376, 0, 0, 0), (377, 0, 0, 0), (378, 0, 0, 0), (380, 0, 0, 0), (381, 0, 0, 0), (382, 0, 0, 0), (383, 0, 0, 0), (384, 0, 0, 0), (386, 0, 0, 0), (388, 0, 0, 0), (389, 0, 0, 0), (390, 39, 2176, 0), (393, 0, 0, 0), (394, 0, 0, 0), (395, 0, 0, 0), (397, 0, 0, 0), (398, 0, 0, 0), (399, 0, 0, 0), (400, 0, 0, 0), (401, 0, 0, 0), (403, 0, 0, 0), (404, 0, 0, 0), (405, 0, 0, 0), (406, 0, 0, 0), (407, 0, 0, 0), (409, 0, 0, 0), (410, 0, 0, 0), (411, 0, 0, 0), (412, 0, 0, 0), (413, 0, 0, 0), (415, 0, 0, 0), (416, 0, 0, 0), (417, 0, 0, 0), (418, 0, 0, 0), (419, 0, 0, 0), (421, 0, 0, 0), (422, 0, 0, 0), (423, 0, 0, 0), (424, 0, 0, 0), (425, 0, 0, 0), (427, 0, 0, 0), (429, 0, 0, 0), (430, 0, 0, 0), (431, 43, 5197, 0), (434, 0, 0, 0), (437, 0, 0, 0), (438, 0, 0, 0), (439, 0, 0, 0), (440, 0, 0, 0), (441, 0, 0, 0), (443, 0, 0, 0), (444, 0, 0, 0), (445, 0, 0, 0), (446, 0, 0, 0), (447, 0, 0, 0), (449, 0, 0, 0), (450, 0, 0, 0), (451, 0, 0, 0), (452, 0, 0, 0), (453, 0, 0, 0), (455, 0, 0, 0), (456, 0, 0, 0), (457, 0, 0, 0), (458, 0, 0, 0), (459, 0, 0, 0), (461, 0, 0, 0), (462, 0, 0, 0), (463, 0, 0, 0), (464, 0, 0, 0), (465, 0, 0, 0), (467, 0, 0, 0), (468, 0, 0, 0), (469, 0, 0, 0), (470, 44, 2222, 0), (473, 0, 0, 0), (474, 0, 0, 0), (475, 0, 0, 0), (477, 0, 0, 0), (478, 0, 0, 0), (479, 0, 0, 0), (480, 0, 0, 0), (481, 0, 0, 0), (483, 0, 0, 0), (484, 0, 0, 0), (485, 0, 0, 0), (486, 0, 0, 0), (487, 0, 0, 0), (489, 0, 0, 0), (490, 0, 0, 0), (491, 0, 0, 0), (492, 0, 0, 0), (493, 0, 0, 0), (495, 0, 0, 0), (496, 0, 0, 0), (497, 0, 0, 0), (498, 0, 0, 0), (499, 0, 0, 0), (501, 0, 0, 0), (502, 0, 0, 0), (503, 0, 0, 0), (504, 47, 5220, 0), (507, 0, 0, 0), (510, 0, 0, 0), (511, 0, 0, 0), (512, 0, 0, 0), (513, 0, 0, 0), (514, 0, 0, 0), (516, 0, 0, 0), (517, 0, 0, 0), (518, 0, 0, 0), (519, 0, 0, 0), (520, 0, 0, 0), (522, 0, 0, 0), (523, 0, 0, 0), (524, 0, 0, 0), (525, 48, 2226, 0), (528, 0, 0, 0), (529, 0, 0, 0), (530, 0, 0, 0), (532, 0, 0, 0), (533, 0, 0, 0), (534, 0, 0, 0), (535, 0, 0, 0), (536, 0, 0, 0), (538, 0, 0, 0), (539, 0, 0, 0), (540, 0, 0, 0), (541, 51, 5224, 0), (544, 0, 0, 0), (547, 0, 0, 0), (548, 0, 0, 0), (549, 0, 0, 0), (550, 0, 0, 0), (551, 0, 0, 0), (553, 0, 0, 0), (554, 0, 0, 0), (555, 0, 0, 0), (556, 0, 0, 0), (557, 0, 0, 0), (559, 0, 0, 0), (560, 0, 0, 0), (561, 0, 0, 0), (562, 0, 0, 0), (563, 52, 3199, 0), (566, 0, 0, 0), (568, 0, 0, 0), (569, 0, 0, 0), (570, 0, 0, 0), (572, 0, 0, 0), (573, 0, 0, 0), (574, 0, 0, 0), (575, 0, 0, 0), (576, 0, 0, 0), (578, 0, 0, 0), (579, 0, 0, 0), (580, 0, 0, 0), (581, 57, 5236, 0), (584, 0, 0, 0), (586, 0, 0, 0), (587, 58, 5012, 0), (590, 0, 0, 0), (592, 0, 0, 0), (595, 0, 0, 0), (596, 0, 0, 0), (597, 0, 0, 0), (599, 0, 0, 0), (602, 0, 0, 0), (603, 0, 0, 0), (604, 0, 0, 0), (605, 0, 0, 0), (607, 0, 0, 0), (608, 0, 0, 0), (609, 0, 0, 0), (612, 0, 0, 0), (613, 0, 0, 0), (614, 0, 0, 0), (617, 0, 0, 0), (618, 0, 0, 0), (619, 0, 0, 0), (621, 0, 0, 0), (622, 0, 0, 0), (623, 0, 0, 0), (624, 0, 0, 0), (625, 0, 0, 0), (627, 0, 0, 0), (628, 0, 0, 0), (629, 0, 0, 0), (630, 0, 0, 0), (631, 0, 0, 0), (633, 0, 0, 0), (634, 0, 0, 0), (635, 0, 0, 0), (636, 0, 0, 0), (639, 0, 0, 0), (640, 0, 0, 0), (643, 0, 0, 0), (644, 62, 2232, 0), (647, 0, 0, 0), (648, 0, 0, 0), (649, 0, 0, 0), (651, 0, 0, 0), (652, 0, 0, 0), (653, 0, 0, 0), (654, 0, 0, 0), (655, 0, 0, 0), (657, 0, 0, 0), (658, 0, 0, 0), (659, 0, 0, 0), (660, 0, 0, 0), (661, 0, 0, 0), (663, 0, 0, 0), (664, 0, 0, 0), (665, 0, 0, 0), (666, 0, 0, 0), (669, 0, 0, 0), (670, 0, 0, 0), (673, 0, 0, 0), (674, 66, 6025, 0), (677, 0, 0, 0), (680, 0, 0, 0), (681, 0, 0, 0), (682, 0, 0, 0), (683, 0, 0, 0), (684, 0, 0, 0), (686, 0, 0, 0), (687, 0, 0, 0), (688, 0, 0, 0), (689, 0, 0, 0), (690, 0, 0, 0), (692, 0, 0, 0), (693, 0, 0, 0), (694, 0, 0, 0), (695, 67, 2236, 0), (698, 0, 0, 0), (699, 0, 0, 0), (700, 0, 0, 0), (702, 0, 0, 0), (703, 0, 0, 0), (704, 0, 0, 0), (705, 0, 0, 0), (706, 0, 0, 0), (708, 0, 0, 0), (709, 0, 0, 0), (710, 0, 0, 0), (711, 70, 6029, 0), (714, 0, 0, 0), (717, 0, 0, 0), (718, 0, 0, 0), (719, 0, 0, 0), (720, 0, 0, 0), (721, 0, 0, 0), (723, 0, 0, 0), (724, 0, 0, 0), (725, 0, 0, 0), (726, 0, 0, 0), (727, 0, 0, 0), (729, 0, 0, 0), (730, 0, 0, 0), (731, 0, 0, 0), (732, 0, 0, 0), (733, 0, 0, 0), (735, 0, 0, 0), (736, 0, 0, 0), (737, 0, 0, 0), (738, 71, 3006, 0), (741, 0, 0, 0), (742, 0, 0, 0), (743, 0, 0, 0), (745, 0, 0, 0), (746, 0, 0, 0), (747, 0, 0, 0), (748, 0, 0, 0), (749, 0, 0, 0), (751, 0, 0, 0), (752, 0, 0, 0), (753, 0, 0, 0), (754, 0, 0, 0), (755, 0, 0, 0), (757, 0, 0, 0), (758, 0, 0, 0), (759, 0, 0, 0), (760, 75, 6041, 0), (763, 0, 0, 0), (766, 0, 0, 0), (767, 0, 0, 0), (768, 0, 0, 0), (769, 0, 0, 0), (770, 0, 0, 0), (772, 0, 0, 0), (773, 0, 0, 0), (774, 0, 0, 0), (775, 0, 0, 0), (776, 0, 0, 0), (778, 0, 0, 0), (779, 0, 0, 0), (780, 0, 0, 0), (781, 0, 0, 0), (782, 0, 0, 0), (784, 0, 0, 0), (785, 0, 0, 0), (786, 0, 0, 0), (787, 76, 3014, 0), (790, 0, 0, 0), (791, 0, 0, 0), (792, 0, 0, 0), (794, 0, 0, 0), (795, 0, 0, 0), (796, 0, 0, 0), (797, 0, 0, 0), (798, 0, 0, 0), (800, 0, 0, 0), (801, 0, 0, 0), (802, 0, 0, 0), (803, 0, 0, 0), (804, 0, 0, 0), (806, 0, 0, 0), (807, 0, 0, 0), (808, 0, 0, 0), (809, 79, 6049, 0), (812, 0, 0, 0), (815, 0, 0, 0), (816, 0, 0, 0), (817, 0, 0, 0), (818, 0, 0, 0), (819, 0, 0, 0), (821, 0, 0, 0), (822, 0, 0, 0), (823, 0, 0, 0), (824, 80, 3018, 0), (827, 0, 0, 0), (828, 0, 0, 0), (829, 0, 0, 0), (831, 0, 0, 0), (832, 0, 0, 0), (833, 0, 0, 0), (834, 83, 6053, 0), (837, 0, 0, 0), (840, 0, 0, 0), (841, 0, 0, 0), (842, 0, 0, 0), (843, 0, 0, 0), (844, 0, 0, 0), (846, 0, 0, 0), (847, 0, 0, 0), (848, 0, 0, 0), (849, 84, 3028, 0), (852, 0, 0, 0), (853, 0, 0, 0), (854, 0, 0, 0), (856, 0, 0, 0), (857, 0, 0, 0), (858, 0, 0, 0), (859, 87, 6061, 0), (862, 0, 0, 0), (865, 0, 0, 0), (866, 0, 0, 0), (867, 0, 0, 0), (868, 0, 0, 0), (869, 0, 0, 0), (871, 0, 0, 0), (872, 0, 0, 0), (873, 0, 0, 0), (874, 88, 3032, 0), (877, 0, 0, 0), (878, 0, 0, 0), (879, 0, 0, 0), (881, 0, 0, 0), (882, 0, 0, 0), (883, 0, 0, 0), (884, 91, 6065, 0), (887, 0, 0, 0), (890, 0, 0, 0), (891, 0, 0, 0), (892, 0, 0, 0), (893, 0, 0, 0), (894, 0, 0, 0), (896, 0, 0, 0), (897, 0, 0, 0), (898, 0, 0, 0), (899, 0, 0, 0), (900, 0, 0, 0), (902, 0, 0, 0), (903, 0, 0, 0), (904, 0, 0, 0), (905, 0, 0, 0), (906, 0, 0, 0), (908, 0, 0, 0), (909, 0, 0, 0), (910, 0, 0, 0), (911, 92, 3036, 0), (914, 0, 0, 0), (915, 0, 0, 0), (916, 0, 0, 0), (918, 0, 0, 0), (919, 0, 0, 0), (920, 0, 0, 0), (921, 0, 0, 0), (922, 0, 0, 0), (924, 0, 0, 0), (925, 0, 0, 0), (926, 0, 0, 0), (927, 0, 0, 0), (928, 0, 0, 0), (930, 0, 0, 0), (931, 0, 0, 0), (932, 0, 0, 0), (933, 95, 6069, 0), (936, 0, 0, 0), (939, 0, 0, 0), (940, 0, 0, 0), (941, 0, 0, 0), (942, 0, 0, 0), (943, 0, 0, 0), (945, 0, 0, 0), (946, 0, 0, 0), (947, 0, 0, 0), (948, 96, 3040, 0), (951, 0, 0, 0), (952, 0, 0, 0), (953, 0, 0, 0), (955, 0, 0, 0), (956, 0, 0, 0), (957, 0, 0, 0), (958, 99, 6073, 0), (961, 0, 0, 0), (964, 0, 0, 0), (965, 0, 0, 0), (966, 0, 0, 0), (967, 0, 0, 0), (968, 0, 0, 0), (970, 0, 0, 0), (971, 0, 0, 0), (972, 0, 0, 0), (973, 100, 3048, 0), (976, 0, 0, 0), (977, 0, 0, 0), (978, 0, 0, 0), (980, 0, 0, 0), (981, 0, 0, 0), (982, 0, 0, 0), (983, 103, 6085, 0), (986, 0, 0, 0), (989, 0, 0, 0), (990, 0, 0, 0), (991, 0, 0, 0), (992, 0, 0, 0), (993, 0, 0, 0), (995, 0, 0, 0), (996, 0, 0, 0), (997, 0, 0, 0), (998, 104, 3052, 0), (1001, 0, 0, 0), (1002, 0, 0, 0), (1003, 0, 0, 0), (1005, 0, 0, 0), (1006, 0, 0, 0), (1007, 0, 0, 0), (1008, 107, 6089, 0), (1011, 0, 0, 0), (1014, 0, 0, 0), (1015, 0, 0, 0), (1016, 0, 0, 0), (1017, 0, 0, 0), (1018, 0, 0, 0), (1020, 0, 0, 0), (1021, 0, 0, 0), (1022, 0, 0, 0), (1023, 0, 0, 0), (1024, 0, 0, 0), (1026, 0, 0, 0), (1027, 0, 0, 0), (1028, 0, 0, 0), (1029, 108, 3057, 0), (1032, 0, 0, 0), (1033, 0, 0, 0), (1034, 0, 0, 0), (1036, 0, 0, 0), (1037, 0, 0, 0), (1038, 0, 0, 0), (1039, 0, 0, 0), (1040, 0, 0, 0), (1042, 0, 0, 0), (1043, 0, 0, 0), (1044, 0, 0, 0), (1045, 111, 6093, 0), (1048, 0, 0, 0), (1051, 0, 0, 0), (1052, 0, 0, 0), (1053, 0, 0, 0), (1054, 0, 0, 0), (1055, 0, 0, 0), (1057, 0, 0, 0), (1058, 0, 0, 0), (1059, 0, 0, 0), (1060, 112, 3061, 0), (1063, 0, 0, 0), (1064, 0, 0, 0), (1065, 0, 0, 0), (1067, 0, 0, 0), (1068, 0, 0, 0), (1069, 0, 0, 0), (1070, 115, 6101, 0), (1073, 0, 0, 0), (1076, 0, 0, 0), (1077, 0, 0, 0), (1078, 0, 0, 0), (1079, 0, 0, 0), (1080, 0, 0, 0), (1082, 0, 0, 0), (1083, 0, 0, 0), (1084, 0, 0, 0), (1085, 0, 0, 0), (1086, 0, 0, 0), (1088, 0, 0, 0), (1089, 0, 0, 0), (1090, 0, 0, 0), (1091, 116, 3067, 0), (1094, 0, 0, 0), (1095, 0, 0, 0), (1096, 0, 0, 0), (1098, 0, 0, 0), (1099, 0, 0, 0), (1100, 0, 0, 0), (1101, 0, 0, 0), (1102, 0, 0, 0), (1104, 0, 0, 0), (1105, 0, 0, 0), (1106, 0, 0, 0), (1107, 119, 6105, 0), (1110, 0, 0, 0), (1113, 0, 0, 0), (1114, 0, 0, 0), (1115, 0, 0, 0), (1116, 0, 0, 0), (1117, 0, 0, 0), (1119, 0, 0, 0), (1120, 0, 0, 0), (1121, 0, 0, 0), (1122, 120, 3071, 0), (1125, 0, 0, 0), (1126, 0, 0, 0), (1127, 0, 0, 0), (1129, 0, 0, 0), (1130, 0, 0, 0), (1131, 0, 0, 0), (1132, 123, 6097, 0), (1135, 0, 0, 0), (1138, 0, 0, 0), (1139, 0, 0, 0), (1140, 0, 0, 0), (1141, 0, 0, 0), (1142, 0, 0, 0), (1144, 0, 0, 0), (1145, 0, 0, 0), (1146, 0, 0, 0), (1147, 0, 0, 0), (1148, 0, 0, 0), (1150, 0, 0, 0), (1151, 0, 0, 0), (1152, 0, 0, 0), (1153, 124, 3075, 0), (1156, 0, 0, 0), (1157, 0, 0, 0), (1158, 0, 0, 0), (1160, 0, 0, 0), (1161, 0, 0, 0), (1162, 0, 0, 0), (1163, 0, 0, 0), (1164, 0, 0, 0), (1166, 0, 0, 0), (1167, 0, 0, 0), (1168, 0, 0, 0), (1169, 127, 6109, 0), (1172, 0, 0, 0), (1175, 0, 0, 0), (1176, 0, 0, 0), (1177, 0, 0, 0), (1178, 0, 0, 0), (1179, 0, 0, 0), (1181, 0, 0, 0), (1182, 0, 0, 0), (1183, 0, 0, 0), (1184, 0, 0, 0), (1185, 0, 0, 0), (1187, 0, 0, 0), (1188, 0, 0, 0), (1189, 0, 0, 0), (1190, 128, 3087, 0), (1193, 0, 0, 0), (1194, 0, 0, 0), (1195, 0, 0, 0), (1197, 0, 0, 0), (1198, 0, 0, 0), (1199, 0, 0, 0), (1200, 0, 0, 0), (1201, 0, 0, 0), (1203, 0, 0, 0), (1204, 0, 0, 0), (1205, 0, 0, 0), (1206, 131, 6081, 0), (1209, 0, 0, 0), (1212, 0, 0, 0), (1213, 0, 0, 0), (1214, 0, 0, 0), (1215, 0, 0, 0), (1216, 0, 0, 0), (1218, 0, 0, 0), (1219, 0, 0, 0), (1220, 0, 0, 0), (1221, 0, 0, 0), (1222, 0, 0, 0), (1224, 0, 0, 0), (1225, 0, 0, 0), (1226, 0, 0, 0), (1227, 132, 3091, 0), (1230, 0, 0, 0), (1231, 0, 0, 0), (1232, 0, 0, 0), (1234, 0, 0, 0), (1235, 0, 0, 0), (1236, 0, 0, 0), (1237, 0, 0, 0), (1238, 0, 0, 0), (1240, 0, 0, 0), (1241, 0, 0, 0), (1242, 0, 0, 0), (1243, 135, 6117, 0), (1246, 0, 0, 0), (1249, 0, 0, 0), (1250, 0, 0, 0), (1251, 0, 0, 0), (1252, 0, 0, 0), (1253, 0, 0, 0), (1255, 0, 0, 0), (1256, 0, 0, 0), (1257, 0, 0, 0), (1258, 136, 3113, 0), (1261, 0, 0, 0), (1262, 0, 0, 0), (1263, 0, 0, 0), (1265, 0, 0, 0), (1266, 0, 0, 0), (1267, 0, 0, 0), (1268, 139, 6136, 0), (1271, 0, 0, 0), (1274, 0, 0, 0), (1275, 0, 0, 0), (1276, 0, 0, 0), (1277, 0, 0, 0), (1278, 0, 0, 0), (1280, 0, 0, 0), (1281, 0, 0, 0), (1282, 0, 0, 0), (1283, 0, 0, 0), (1284, 0, 0, 0), (1286, 0, 0, 0), (1287, 0, 0, 0), (1288, 0, 0, 0), (1289, 140, 3118, 0), (1292, 0, 0, 0), (1293, 0, 0, 0), (1294, 0, 0, 0), (1296, 0, 0, 0), (1297, 0, 0, 0), (1298, 0, 0, 0), (1299, 0, 0, 0), (1300, 0, 0, 0), (1302, 0, 0, 0), (1303, 0, 0, 0), (1304, 0, 0, 0), (1305, 143, 6140, 0), (1308, 0, 0, 0), (1311, 0, 0, 0), (1312, 0, 0, 0), (1313, 0, 0, 0), (1314, 0, 0, 0), (1315, 0, 0, 0), (1317, 0, 0, 0), (1318, 0, 0, 0), (1319, 0, 0, 0), (1320, 0, 0, 0), (1321, 0, 0, 0), (1323, 0, 0, 0), (1324, 0, 0, 0), (1325, 0, 0, 0), (1326, 144, 3142, 0), (1329, 0, 0, 0), (1330, 0, 0, 0), (1331, 0, 0, 0), (1333, 0, 0, 0), (1334, 0, 0, 0), (1335, 0, 0, 0), (1336, 0, 0, 0), (1337, 0, 0, 0), (1339, 0, 0, 0), (1340, 0, 0, 0), (1341, 0, 0, 0), (1342, 147, 6156, 0), (1345, 0, 0, 0), (1348, 0, 0, 0), (1349, 0, 0, 0), (1350, 0, 0, 0), (1351, 0, 0, 0), (1352, 0, 0, 0), (1354, 0, 0, 0), (1355, 0, 0, 0), (1356, 0, 0, 0), (1357, 0, 0, 0), (1358, 0, 0, 0), (1360, 0, 0, 0), (1361, 0, 0, 0), (1362, 0, 0, 0), (1363, 0, 0, 0), (1364, 0, 0, 0), (1366, 0, 0, 0), (1367, 0, 0, 0), (1368, 0, 0, 0), (1369, 148, 3146, 0), (1372, 0, 0, 0), (1373, 0, 0, 0), (1374, 0, 0, 0), (1376, 0, 0, 0), (1377, 0, 0, 0), (1378, 0, 0, 0), (1379, 0, 0, 0), (1380, 0, 0, 0), (1382, 0, 0, 0), (1383, 0, 0, 0), (1384, 0, 0, 0), (1385, 0, 0, 0), (1386, 0, 0, 0), (1388, 0, 0, 0), (1389, 0, 0, 0), (1390, 0, 0, 0), (1391, 151, 6160, 0), (1394, 0, 0, 0), (1397, 0, 0, 0), (1398, 0, 0, 0), (1399, 0, 0, 0), (1400, 152, 3167, 0), (1403, 0, 0, 0), (1404, 155, 5182, 0), (1407, 0, 0, 0), (1410, 0, 0, 0), (1411, 0, 0, 0), (1412, 0, 0, 0), (1413, 156, 3179, 0), (1416, 0, 0, 0), (1417, 159, 5189, 0), (1420, 0, 0, 0), (1423, 0, 0, 0), (1424, 0, 0, 0), (1425, 0, 0, 0), (1426, 160, 3183, 0), (1429, 0, 0, 0), (1430, 163, 5193, 0), (1433, 0, 0, 0), (1436, 0, 0, 0), (1437, 0, 0, 0), (1438, 0, 0, 0), (1439, 0, 0, 0), (1440, 0, 0, 0), (1442, 0, 0, 0), (1443, 0, 0, 0), (1444, 0, 0, 0), (1445, 164, 3187, 0), (1448, 0, 0, 0), (1449, 0, 0, 0), (1450, 0, 0, 0), (1452, 0, 0, 0), (1453, 0, 0, 0), (1454, 0, 0, 0), (1455, 167, 6174, 0), (1458, 0, 0, 0), (1461, 0, 0, 0), (1462, 0, 0, 0), (1463, 0, 0, 0), (1466, 0, 0, 0), (1469, 0, 0, 0), (1470, 0, 0, 0)]
def ab_axL : List (List (Nat × Nat × Nat × Nat)) := [ab_x0, ab_x1, ab_x2, ab_x3, ab_x4, ab_x5, ab_x6, ab_x7, ab_x8, ab_x9, ab_x10, ab_x11, ab_x12, ab_x13, ab_x14, ab_x15, ab_x16, ab_x17, ab_x18, ab_x19, ab_x20, ab_x21, ab_x22, ab_x23, ab_x24, ab_x25, ab_x26, ab_x27, ab_x28, ab_x29, ab_x30, ab_x31, ab_x32, ab_x33, ab_x34, ab_x35, ab_x36, ab_x37, ab_x38, ab_x39, ab_x40, ab_x41, ab_x42, ab_x43, ab_x44, ab_x45, ab_x46, ab_x47, ab_x48, ab_x49, ab_x50, ab_x51, ab_x52, ab_x53, ab_x54, ab_x55, ab_x56, ab_x57, ab_x58, ab_x59, ab_x60, ab_x61, ab_x62, ab_x63, ab_x64, ab_x65, ab_x66, ab_x67, ab_x68, ab_x69, ab_x70, ab_x71, ab_x72, ab_x73, ab_x74, ab_x75, ab_x76, ab_x77, ab_x78, ab_x79, ab_x80, ab_x81, ab_x82, ab_x83, ab_x84, ab_x85, ab_x86, ab_x87, ab_x88, ab_x89, ab_x90, ab_x91, ab_x92, ab_x93, ab_x94, ab_x95, ab_x96, ab_x97, ab_x98, ab_x99, ab_x100, ab_x101, ab_x102, ab_x103, ab_x104, ab_x105, ab_x106, ab_x107, ab_x108, ab_x109, ab_x110, ab_x111, ab_x112, ab_x113, ab_x114, ab_x115, ab_x116, ab_x117, ab_x118, ab_x119, ab_x120, ab_x121, ab_x122, ab_x123, ab_x124, ab_x125, ab_x126, ab_x127, ab_x128, ab_x129, ab_x130, ab_x131, ab_x132, ab_x133, ab_x134, ab_x135, ab_x136, ab_x137, ab_x138, ab_x139, ab_x140, ab_x141, ab_x142, ab_x143, ab_x144, ab_x145, ab_x146, ab_x147, ab_x148, ab_x149, ab_x150, ab_x151, ab_x152, ab_x153, ab_x154, ab_x155, ab_x156, ab_x157, ab_x158, ab_x159, ab_x160, ab_x161, ab_x162, ab_x163, ab_x164, ab_x165, ab_x166, ab_x167, ab_x168, ab_x169, ab_x170, ab_x171, ab_x172, ab_x173, ab_x174, ab_x175, ab_x176, ab_x177, ab_x178, ab_x179, ab_x180, ab_x181, ab_x182, ab_x183, ab_x184, ab_x185, ab_x186, ab_x187, ab_x188, ab_x189, ab_x190, ab_x191, ab_x192, ab_x193, ab_x194, ab_x195, ab_x196, ab_x197, ab_x198, ab_x199, ab_x200, ab_x201, ab_x202, ab_x203, ab_x204, ab_x205, ab_x206, ab_x207, ab_x208, ab_x209, ab_x210, ab_x211, ab_x212, ab_x213, ab_x214, ab_x215, ab_x216, ab_x217, ab_x218, ab_x219, ab_x220, ab_x221, ab_x222, ab_x223, ab_x224, ab_x225, ab_x226, ab_x227, ab_x228, ab_x229, ab_x230, ab_x231, ab_x232, ab_x233, ab_x234, ab_x235, ab_x236, ab_x237, ab_x238, ab_x239, ab_x240, ab_x241, ab_x242, ab_x243, ab_x244, ab_x245, ab_x246]
-- the methods: name, descriptor, locals, what comes back, places among the words (code, static or not, selects)
def ab_mL : List (String × String × String × Nat × Option FieldType × Nat × Nat × Nat × Nat) := [("EventLedger", "<init>", "()V", 2, none, 29, 28, 7000, 1),
  ("EventLedger", "feed", "(IIIII)I", 6, some .int, 1136, 1134, 1135, 1),
  ("EventLedger", "text", "(I)I", 3, some .int, 1144, 1142, 1143, 1),
  ("EventLedger", "fault", "(I)I", 2, some .int, 2169, 2167, 2168, 1),
  ("EventLedger", "named", "(II)I", 3, some .int, 2173, 2171, 2172, 1),
  ("EventLedger", "event", "(IIIIII)I", 7, some .int, 2179, 2177, 2178, 1),
  ("EventLedger", "old", "(IIIII)I", 6, some .int, 2225, 2223, 2224, 1),
  ("EventLedger", "revoke", "(II)I", 4, some .int, 2229, 2227, 2228, 1),
  ("EventLedger", "of", "(II)I", 3, some .int, 3207, 3205, 3206, 1),
  ("EventLedger", "field", "(IIZ)I", 5, some .int, 2235, 2233, 2234, 1),
  ("EventLedger", "account", "(II)I", 3, some .int, 2239, 2237, 2238, 1),
  ("EventLedger", "at", "(III)I", 4, some .int, 3009, 3007, 3008, 1),
  ("EventLedger", "known", "(III)I", 5, some .int, 3017, 3015, 3016, 1),
  ("EventLedger", "cost", "(I)I", 2, some .int, 3021, 3019, 3020, 1),
  ("EventLedger", "costAt", "(I)I", 2, some .int, 3031, 3029, 3030, 1),
  ("EventLedger", "snapshot", "(I)I", 2, some .int, 3035, 3033, 3034, 1),
  ("EventLedger", "inSnapshot", "(III)I", 4, some .int, 3039, 3037, 3038, 1),
  ("EventLedger", "bestPlace", "(I)I", 8, some .int, 3043, 3041, 3042, 1),
  ("EventLedger", "aside", "(I)I", 4, some .int, 3051, 3049, 3050, 1),
  ("EventLedger", "blame", "(I)I", 3, some .int, 3055, 3053, 3054, 1),
  ("EventLedger", "without", "(II)I", 3, some .int, 3060, 3058, 3059, 1),
  ("EventLedger", "firstBelow", "(I)I", 3, some .int, 3064, 3062, 3063, 1),
  ("EventLedger", "peak", "(II)I", 6, some .int, 3070, 3068, 3069, 1),
  ("EventLedger", "touches", "(I)I", 4, some .int, 3074, 3072, 3073, 1),
  ("EventLedger", "ifPlain", "(II)I", 4, some .int, 3078, 3076, 3077, 1),
  ("EventLedger", "resnap", "(II)I", 3, some .int, 3090, 3088, 3089, 1),
  ("EventLedger", "see", "(II)I", 6, some .int, 3094, 3092, 3093, 1),
  ("EventLedger", "rewind", "(I)I", 3, some .int, 3116, 3114, 3115, 1),
  ("EventLedger", "tally", "(II)I", 3, some .int, 3121, 3119, 3120, 1),
  ("EventLedger", "sum", "(II)I", 3, some .int, 3145, 3143, 3144, 1),
  ("EventLedger", "chance", "(III)I", 5, some .int, 3149, 3147, 3148, 1),
  ("EventLedger", "undo", "()I", 2, some .int, 3170, 3168, 3169, 1),
  ("EventLedger", "keep", "()I", 1, some .int, 3182, 3180, 3181, 1),
  ("EventLedger", "back", "()I", 1, some .int, 3186, 3184, 3185, 1),
  ("EventLedger", "count", "(I)I", 2, some .int, 3190, 3188, 3189, 1),
  ("EventLedger", "putBytes", "(I)V", 3, none, 1140, 1139, 7000, 1),
  ("EventLedger", "takeOverSpares", "()V", 4, none, 2083, 2082, 9004, 1),
  ("EventLedger", "isAccount", "(I)Z", 2, some .boolean, 2187, 2186, 10010, 1),
  ("EventLedger", "isTally", "(I)Z", 2, some .boolean, 3098, 3097, 11007, 1),
  ("EventLedger", "isTime", "(I)Z", 1, some .boolean, 2190, 2189, 7000, 1),
  ("EventLedger", "isNumber", "(I)Z", 1, some .boolean, 2193, 2192, 7000, 1),
  ("EventLedger", "canBe", "(III)Z", 4, some .boolean, 2183, 2182, 10009, 1),
  ("EventLedger", "fillRow", "(II)V", 3, none, 2198, 2197, 10011, 1),
  ("EventLedger", "refusalAt", "(I)I", 2, some .int, 2206, 2205, 10013, 1),
  ("EventLedger", "comes", "(IIIII)I", 8, some .int, 2202, 2201, 10012, 1),
  ("EventLedger", "rebuild", "()V", 1, none, 2112, 2111, 9011, 1),
  ("EventLedger", "costOf", "(I)I", 2, some .int, 3025, 3024, 11003, 1),
  ("EventLedger", "seeNext", "(I)V", 3, none, 3103, 3102, 11008, 1),
  ("EventLedger", "countsNow", "(II)Z", 3, some .boolean, 3108, 3107, 11009, 1),
  ("EventLedger", "countedField", "(II)I", 3, some .int, 3137, 3136, 11014, 1),
  ("EventLedger", "sumCounted", "(II)I", 5, some .int, 3129, 3128, 11012, 1),
  ("EventLedger", "sumAnew", "(I)I", 4, some .int, 3141, 3140, 11015, 1),
  ("EventLedger", "addByChance", "(II)V", 9, none, 3153, 3152, 12000, 1),
  ("EventLedger", "nextNumber", "(I)I", 1, some .int, 3157, 3156, 7000, 1),
  ("EventLedger", "drawn", "(II)I", 2, some .int, 3162, 3161, 7000, 1),
  ("EventLedger", "mark", "()V", 3, none, 2211, 2210, 10014, 1),
  ("EventLedger", "fillMark", "(LEventLedger$Mark;)V", 2, none, 2215, 2214, 10015, 1),
  ("EventLedger", "restore", "(LEventLedger$Mark;)V", 2, none, 3178, 3177, 12003, 1),
  ("EventLedgerModel", "<init>", "()V", 1, none, 4054, 4053, 7000, 12),
  ("EventLedgerModel", "thrown", "()I", 1, some .int, 5015, 5013, 5014, 12),
  ("EventLedgerModel", "feed", "(IIIII)I", 8, some .int, 5019, 5017, 5018, 12),
  ("EventLedgerModel", "here", "()I", 1, some .int, 5035, 5034, 13007, 12),
  ("EventLedgerModel", "isSmall", "(I)Z", 1, some .boolean, 5038, 5037, 7000, 12),
  ("EventLedgerModel", "isDigit", "(I)Z", 1, some .boolean, 5098, 5097, 7000, 12),
  ("EventLedgerModel", "token", "()V", 2, none, 5031, 5030, 13006, 12),
  ("EventLedgerModel", "wordHere", "()I", 4, some .int, 5042, 5041, 13008, 12),
  ("EventLedgerModel", "nameHere", "()V", 2, none, 5095, 5094, 13009, 12),
  ("EventLedgerModel", "wrong", "(I)V", 2, none, 5107, 5106, 13011, 12),
  ("EventLedgerModel", "goOn", "()V", 1, none, 5115, 5114, 13013, 12),
  ("EventLedgerModel", "numeral", "(II)I", 4, some .int, 5130, 5129, 14000, 12),
  ("EventLedgerModel", "reading", "(I)I", 2, some .int, 4071, 4070, 12010, 12),
  ("EventLedgerModel", "reads", "(II)V", 3, none, 4063, 4062, 12008, 12),
  ("EventLedgerModel", "foundIn", "([IIII)I", 5, some .int, 5122, 5121, 7000, 12),
  ("EventLedgerModel", "newName", "([III)V", 4, none, 5142, 5141, 14003, 12),
  ("EventLedgerModel", "wordOf", "(II)I", 4, some .int, 5150, 5149, 14005, 12),
  ("EventLedgerModel", "accountHere", "()I", 2, some .int, 5119, 5118, 13014, 12),
  ("EventLedgerModel", "readAccount", "()V", 1, none, 5138, 5137, 14002, 12),
  ("EventLedgerModel", "stepAt", "(IIII)I", 4, some .int, 5153, 5152, 7000, 12),
  ("EventLedgerModel", "readLift", "()V", 9, none, 5146, 5145, 14004, 12),
  ("EventLedgerModel", "readTally", "()V", 4, none, 5157, 5156, 14006, 12),
  ("EventLedgerModel", "readSnap", "()V", 1, none, 5161, 5160, 14007, 12),
  ("EventLedgerModel", "readSeed", "()V", 1, none, 5165, 5164, 14008, 12),
  ("EventLedgerModel", "timeAhead", "()I", 1, some .int, 5126, 5125, 13015, 12),
  ("EventLedgerModel", "readEvent", "(I)V", 10, none, 5111, 5110, 13012, 12),
  ("EventLedgerModel", "readRevoke", "()V", 5, none, 5134, 5133, 14001, 12),
  ("EventLedgerModel", "readLine", "()V", 1, none, 5103, 5102, 13010, 12),
  ("EventLedgerModel", "freshText", "()V", 2, none, 4059, 4058, 12007, 12),
  ("EventLedgerModel", "readText", "(I)V", 2, none, 5027, 5026, 13005, 12),
  ("EventLedgerModel", "takeText", "()V", 2, none, 4067, 4066, 12009, 12),
  ("EventLedgerModel", "text", "(I)I", 2, some .int, 5023, 5021, 5022, 12),
  ("EventLedgerModel", "fault", "(I)I", 2, some .int, 5169, 5167, 5168, 12),
  ("EventLedgerModel", "accounts", "()I", 1, some .int, 5177, 5176, 14009, 12),
  ("EventLedgerModel", "tallies", "()I", 1, some .int, 5181, 5180, 14010, 12),
  ("EventLedgerModel", "named", "(II)I", 3, some .int, 5173, 5171, 5172, 12),
  ("EventLedgerModel", "copies", "([II[II)V", 5, none, 5188, 5187, 7000, 12),
  ("EventLedgerModel", "many", "()I", 1, some .int, 4083, 4082, 12013, 12),
  ("EventLedgerModel", "begins", "()V", 4, none, 4075, 4074, 12011, 12),
  ("EventLedgerModel", "remembers", "()V", 2, none, 5219, 5218, 14014, 12),
  ("EventLedgerModel", "undo", "()I", 1, some .int, 5185, 5183, 5184, 12),
  ("EventLedgerModel", "keep", "()I", 1, some .int, 5192, 5190, 5191, 12),
  ("EventLedgerModel", "back", "()I", 1, some .int, 5196, 5194, 5195, 12),
  ("EventLedgerModel", "isVoid", "(I)Z", 2, some .boolean, 4107, 4106, 13003, 12),
  ("EventLedgerModel", "isVoided", "(I)Z", 2, some .boolean, 5235, 5234, 15000, 12),
  ("EventLedgerModel", "weightOf", "(I)I", 2, some .int, 4103, 4102, 13002, 12),
  ("EventLedgerModel", "weights", "(II)I", 5, some .int, 4099, 4098, 13001, 12),
  ("EventLedgerModel", "snapAt", "(I)I", 2, some .int, 4091, 4090, 12015, 12),
  ("EventLedgerModel", "snapGoes", "(I)V", 3, none, 4111, 4110, 13004, 12),
  ("EventLedgerModel", "snaps", "(I)V", 4, none, 4095, 4094, 13000, 12),
  ("EventLedgerModel", "letsGo", "(I)V", 2, none, 4087, 4086, 12014, 12),
  ("EventLedgerModel", "comes", "(IIIII)V", 8, none, 4079, 4078, 12012, 12),
  ("EventLedgerModel", "breaks", "(I)Z", 6, some .boolean, 6011, 6010, 15003, 12),
  ("EventLedgerModel", "breaksBy", "(I)Z", 4, some .boolean, 6015, 6014, 15004, 12),
  ("EventLedgerModel", "causeOf", "(IIIZ)I", 6, some .int, 6020, 6019, 15005, 12),
  ("EventLedgerModel", "applies", "(III)V", 4, none, 6024, 6023, 15006, 12),
  ("EventLedgerModel", "replays", "(IIII)V", 9, none, 6007, 6006, 15002, 12),
  ("EventLedgerModel", "replaysAll", "()V", 1, none, 6003, 6002, 15001, 12),
  ("EventLedgerModel", "asidesNow", "()I", 3, some .int, 6116, 6115, 15011, 12),
  ("EventLedgerModel", "isAccount", "(I)Z", 2, some .boolean, 5208, 5207, 14012, 12),
  ("EventLedgerModel", "isTime", "(I)Z", 1, some .boolean, 5211, 5210, 7000, 12),
  ("EventLedgerModel", "has", "(II)I", 3, some .int, 6040, 6039, 15007, 12),
  ("EventLedgerModel", "placeAt", "(I)I", 3, some .int, 6048, 6047, 15008, 12),
  ("EventLedgerModel", "latestTime", "()I", 1, some .int, 5215, 5214, 14013, 12),
  ("EventLedgerModel", "eventOf", "(IIIIIII)I", 10, some .int, 5204, 5203, 14011, 12),
  ("EventLedgerModel", "event", "(IIIIII)I", 7, some .int, 5200, 5198, 5199, 12),
  ("EventLedgerModel", "old", "(IIIII)I", 6, some .int, 5223, 5221, 5222, 12),
  ("EventLedgerModel", "isEvent", "(I)Z", 2, some .boolean, 5231, 5230, 14015, 12),
  ("EventLedgerModel", "revoke", "(II)I", 3, some .int, 5227, 5225, 5226, 12),
  ("EventLedgerModel", "of", "(II)I", 4, some .int, 5239, 5237, 5238, 12),
  ("EventLedgerModel", "field", "(IIZ)I", 4, some .int, 6028, 6026, 6027, 12),
  ("EventLedgerModel", "isWhat", "(I)Z", 1, some .boolean, 6035, 6034, 7000, 12),
  ("EventLedgerModel", "account", "(II)I", 3, some .int, 6032, 6030, 6031, 12),
  ("EventLedgerModel", "at", "(III)I", 4, some .int, 6044, 6042, 6043, 12),
  ("EventLedgerModel", "known", "(III)I", 5, some .int, 6052, 6050, 6051, 12),
  ("EventLedgerModel", "costOf", "(I)I", 4, some .int, 6060, 6059, 15009, 12),
  ("EventLedgerModel", "cost", "(I)I", 2, some .int, 6056, 6054, 6055, 12),
  ("EventLedgerModel", "costAt", "(I)I", 2, some .int, 6064, 6062, 6063, 12),
  ("EventLedgerModel", "snapshot", "(I)I", 2, some .int, 6068, 6066, 6067, 12),
  ("EventLedgerModel", "inSnapshot", "(III)I", 4, some .int, 6072, 6070, 6071, 12),
  ("EventLedgerModel", "costsWith", "(I)I", 6, some .int, 6080, 6079, 15010, 12),
  ("EventLedgerModel", "bestPlace", "(I)I", 6, some .int, 6076, 6074, 6075, 12),
  ("EventLedgerModel", "resnap", "(II)I", 4, some .int, 6084, 6082, 6083, 12),
  ("EventLedgerModel", "aside", "(I)I", 4, some .int, 6088, 6086, 6087, 12),
  ("EventLedgerModel", "blame", "(I)I", 3, some .int, 6092, 6090, 6091, 12),
  ("EventLedgerModel", "without", "(II)I", 3, some .int, 6096, 6094, 6095, 12),
  ("EventLedgerModel", "touches", "(I)I", 4, some .int, 6100, 6098, 6099, 12),
  ("EventLedgerModel", "firstBelow", "(I)I", 2, some .int, 6104, 6102, 6103, 12),
  ("EventLedgerModel", "peak", "(II)I", 3, some .int, 6108, 6106, 6107, 12),
  ("EventLedgerModel", "ifPlain", "(II)I", 3, some .int, 6112, 6110, 6111, 12),
  ("EventLedgerModel", "isTally", "(I)Z", 2, some .boolean, 6124, 6123, 15012, 12),
  ("EventLedgerModel", "tallyAt", "(I)I", 1, some .int, 6127, 6126, 7000, 12),
  ("EventLedgerModel", "counts", "(II)I", 3, some .int, 6135, 6134, 15014, 12),
  ("EventLedgerModel", "sees", "(II)V", 5, none, 6131, 6130, 15013, 12),
  ("EventLedgerModel", "see", "(II)I", 5, some .int, 6120, 6118, 6119, 12),
  ("EventLedgerModel", "rewind", "(I)I", 5, some .int, 6139, 6137, 6138, 12),
  ("EventLedgerModel", "countedMany", "(I)I", 4, some .int, 6147, 6146, 15015, 12),
  ("EventLedgerModel", "sums", "(I)I", 4, some .int, 6151, 6150, 16000, 12),
  ("EventLedgerModel", "anew", "(I)I", 5, some .int, 6155, 6154, 16001, 12),
  ("EventLedgerModel", "tally", "(II)I", 3, some .int, 6143, 6141, 6142, 12),
  ("EventLedgerModel", "sum", "(II)I", 3, some .int, 6159, 6157, 6158, 12),
  ("EventLedgerModel", "draw", "(I)I", 2, some .int, 6167, 6166, 16002, 12),
  ("EventLedgerModel", "balances", "()I", 3, some .int, 6173, 6172, 16003, 12),
  ("EventLedgerModel", "chance", "(III)I", 9, some .int, 6163, 6161, 6162, 12),
  ("EventLedgerModel", "voidedMany", "()I", 3, some .int, 6185, 6184, 16005, 12),
  ("EventLedgerModel", "openMany", "()I", 3, some .int, 6189, 6188, 16006, 12),
  ("EventLedgerModel", "asideMany", "()I", 1, some .int, 6181, 6180, 16004, 12),
  ("EventLedgerModel", "count", "(I)I", 2, some .int, 6177, 6175, 6176, 12),
  ("EventLedger$Log", "<init>", "()V", 1, none, 168, 167, 7000, 7),
  ("EventLedger$Log", "clear", "()V", 1, none, 1156, 1155, 7003, 7),
  ("EventLedger$Log", "holds", "(I)Z", 2, some .boolean, 2049, 2048, 8013, 7),
  ("EventLedger$Log", "holdsPlain", "(I)Z", 2, some .boolean, 2045, 2044, 8012, 7),
  ("EventLedger$Log", "latestTime", "()I", 1, some .int, 2057, 2056, 8015, 7),
  ("EventLedger$Log", "add", "(IIIII[I)V", 7, none, 2076, 2075, 9003, 7),
  ("EventLedger$Log", "addVoid", "(II)V", 3, none, 2064, 2063, 9000, 7),
  ("EventLedger$Log", "cutTo", "(I)V", 3, none, 3174, 3173, 12002, 7),
  ("EventLedger$Log", "unlift", "(I)V", 2, none, 2091, 2090, 9006, 7),
  ("EventLedger$Log", "weights", "(II)I", 3, some .int, 2128, 2127, 9015, 7),
  ("EventLedger$Log", "placeAt", "(I)I", 3, some .int, 3013, 3012, 11002, 7),
  ("EventLedger$Log", "countVoided", "()I", 3, some .int, 3194, 3193, 12004, 7),
  ("EventLedger$Log", "copyFrom", "(LEventLedger$Log;)V", 2, none, 3082, 3081, 11005, 7),
  ("EventLedger$Mark", "<init>", "()V", 1, none, 1060, 1059, 7000, 11),
  ("EventLedger$Parser", "<init>", "([B)V", 2, none, 37, 36, 7000, 2),
  ("EventLedger$Parser", "parse", "(ILEventLedger$Terms;LEventLedger$Log;)I", 5, some .int, 1148, 1147, 7001, 2),
  ("EventLedger$Parser", "readLine", "(LEventLedger$Word;)V", 2, none, 1196, 1195, 7010, 2),
  ("EventLedger$Parser", "readAccount", "()V", 3, none, 1208, 1207, 7011, 2),
  ("EventLedger$Parser", "readLift", "()V", 7, none, 1236, 1235, 8001, 2),
  ("EventLedger$Parser", "readTally", "()V", 5, none, 2019, 2018, 8006, 2),
  ("EventLedger$Parser", "readSnap", "()V", 1, none, 2031, 2030, 8009, 2),
  ("EventLedger$Parser", "readSeed", "()V", 1, none, 2035, 2034, 8010, 2),
  ("EventLedger$Parser", "readVoid", "()V", 4, none, 2040, 2039, 8011, 2),
  ("EventLedger$Parser", "readEvent", "(I)V", 8, none, 2068, 2067, 9001, 2),
  ("EventLedger$Parser", "needRoom", "(II)V", 3, none, 1212, 1211, 7012, 2),
  ("EventLedger$Parser", "fail", "(II)V", 3, none, 1192, 1191, 7009, 2),
  ("EventLedger$Parser", "stands", "(I)Z", 2, some .boolean, 1188, 1187, 7008, 2),
  ("EventLedger$Parser", "takeStop", "()V", 1, none, 1228, 1227, 7015, 2),
  ("EventLedger$Parser", "takeName", "()I", 2, some .int, 1217, 1216, 7013, 2),
  ("EventLedger$Parser", "takeNumber", "(II)I", 4, some .int, 2004, 2003, 8003, 2),
  ("EventLedger$Parser", "takeTime", "()I", 1, some .int, 2053, 2052, 8014, 2),
  ("EventLedger$Parser", "takeAccount", "()I", 2, some .int, 2072, 2071, 9002, 2),
  ("EventLedger$Parser", "takeNamed", "(I)I", 2, some .int, 2000, 1239, 8002, 2),
  ("EventLedger$Shots", "<init>", "()V", 1, none, 1022, 1021, 7000, 9),
  ("EventLedger$Shots", "retake", "(LEventLedger$Log;I)I", 6, some .int, 2116, 2115, 9012, 9),
  ("EventLedger$Shots", "letGoAbove", "(I)V", 2, none, 2120, 2119, 9013, 9),
  ("EventLedger$Shots", "leastWorth", "(LEventLedger$Log;)I", 6, some .int, 2132, 2131, 10000, 9),
  ("EventLedger$Shots", "letGo", "(I)V", 3, none, 2137, 2136, 10001, 9),
  ("EventLedger$Shots", "latestUpTo", "(I)I", 4, some .int, 2124, 2123, 9014, 9),
  ("EventLedger$Shots", "nextBehind", "(II)I", 4, some .int, 3047, 3046, 11004, 9),
  ("EventLedger$State", "<init>", "()V", 1, none, 232, 231, 7000, 8),
  ("EventLedger$State", "begin", "(II)V", 4, none, 2145, 2144, 10003, 8),
  ("EventLedger$State", "replay", "(LEventLedger$Log;III)V", 6, none, 2141, 2140, 10002, 8),
  ("EventLedger$State", "step", "(LEventLedger$Log;I)V", 3, none, 2149, 2148, 10004, 8),
  ("EventLedger$State", "passesOver", "(LEventLedger$Log;I)Z", 4, some .boolean, 2153, 2152, 10005, 8),
  ("EventLedger$State", "causeOf", "(LEventLedger$Log;I)I", 7, some .int, 2157, 2156, 10006, 8),
  ("EventLedger$State", "isTooLittle", "(IIII)Z", 5, some .boolean, 2161, 2160, 10007, 8),
  ("EventLedger$State", "change", "(LEventLedger$Log;I)V", 6, none, 2165, 2164, 10008, 8),
  ("EventLedger$State", "look", "(II)I", 3, some .int, 3003, 3002, 11001, 8),
  ("EventLedger$State", "countAside", "(II)I", 5, some .int, 3086, 3085, 11006, 8),
  ("EventLedger$State", "countOpen", "()I", 3, some .int, 3198, 3197, 12005, 8),
  ("EventLedger$State", "sumBalances", "()I", 3, some .int, 3166, 3165, 12001, 8),
  ("EventLedger$Tallies", "<init>", "()V", 1, none, 1045, 1044, 7000, 10),
  ("EventLedger$Tallies", "clear", "()V", 2, none, 2100, 2099, 9008, 10),
  ("EventLedger$Tallies", "restart", "(I)V", 3, none, 2104, 2103, 9009, 10),
  ("EventLedger$Tallies", "putOn", "(II)V", 3, none, 3112, 3111, 11010, 10),
  ("EventLedger$Tallies", "takeOff", "(II)V", 3, none, 2108, 2107, 9010, 10),
  ("EventLedger$Tallies", "isCounted", "(II)Z", 3, some .boolean, 3133, 3132, 11013, 10),
  ("EventLedger$Tallies", "countCounted", "(I)I", 4, some .int, 3125, 3124, 11011, 10),
  ("EventLedger$Tallies", "copyFrom", "(LEventLedger$Tallies;)V", 2, none, 2219, 2218, 11000, 10),
  ("EventLedger$Terms", "<init>", "()V", 1, none, 110, 109, 7000, 6),
  ("EventLedger$Terms", "clear", "()V", 2, none, 1152, 1151, 7002, 6),
  ("EventLedger$Terms", "accountNamed", "(I)I", 2, some .int, 1221, 1220, 7014, 6),
  ("EventLedger$Terms", "tallyNamed", "(I)I", 2, some .int, 2023, 2022, 8007, 6),
  ("EventLedger$Terms", "find", "([III)I", 4, some .int, 1224, 1223, 7000, 6),
  ("EventLedger$Terms", "addAccount", "(I)V", 2, none, 1232, 1231, 8000, 6),
  ("EventLedger$Terms", "addTally", "(III)V", 4, none, 2027, 2026, 8008, 6),
  ("EventLedger$Terms", "group", "(II)I", 2, some .int, 2011, 2010, 7000, 6),
  ("EventLedger$Terms", "countSteps", "(II)I", 3, some .int, 2008, 2007, 8004, 6),
  ("EventLedger$Terms", "addStep", "(IIIII)V", 8, none, 2015, 2014, 8005, 6),
  ("EventLedger$Terms", "lift", "(LEventLedger$Log;III)V", 11, none, 2087, 2086, 9005, 6),
  ("EventLedger$Terms", "takeStep", "(LEventLedger$Log;II)V", 6, none, 2095, 2094, 9007, 6),
  ("EventLedger$Tokens", "<init>", "([B)V", 2, none, 43, 42, 7000, 3),
  ("EventLedger$Tokens", "begin", "(I)V", 2, none, 1160, 1159, 7004, 3),
  ("EventLedger$Tokens", "advance", "()V", 1, none, 1167, 1166, 7005, 3),
  ("EventLedger$Tokens", "readWord", "()V", 5, none, 1174, 1173, 7006, 3),
  ("EventLedger$Tokens", "readNumber", "()V", 1, none, 1183, 1182, 7007, 3),
  ("EventLedger$Tokens", "isLetter", "(B)Z", 1, some .boolean, 1170, 1169, 7000, 3),
  ("EventLedger$Tokens", "isDigit", "(B)Z", 1, some .boolean, 1179, 1178, 7000, 3),
  ("EventLedgerLaw", "of", "(LEventLedger;II[J)I", 5, some .int, 0, 3200, 7000, 0),
  ("EventLedgerLaw", "law", "([I)Z", 7, some .boolean, 0, 7000, 7000, 0)]
def ab_kndL : List Nat := [1, 2, 2, 2, 2, 2, 2, 2, 2, 2, 2, 2, 2, 2, 2, 2, 2, 2, 2, 2, 2, 2, 2, 2, 2, 2, 2, 2, 2, 2, 2, 2, 2, 2, 2, 2, 2, 2, 2, 0, 0, 2, 2, 2, 2, 2, 2, 2, 2, 2, 2, 2, 2, 0, 0, 2, 2, 2, 1, 2, 2, 2, 0, 0, 2, 2, 2, 2, 2, 2, 2, 2, 0, 2, 2, 2, 2, 0, 2, 2, 2, 2, 2, 2, 2, 2, 2, 2, 2, 2, 2, 2, 2, 2, 0, 2, 2, 2, 2, 2, 2, 2, 2, 2, 2, 2, 2, 2, 2, 2, 2, 2, 2, 2, 2, 2, 2, 2, 0, 2, 2, 2, 2, 2, 2, 2, 2, 2, 2, 0, 2, 2, 2, 2, 2, 2, 2, 2, 2, 2, 2, 2, 2, 2, 2, 2, 2, 2, 2, 0, 2, 2, 2, 2, 2, 2, 2, 2, 2, 2, 2, 2, 2, 2, 2, 2, 1, 2, 2, 2, 2, 2, 2, 2, 2, 2, 2, 2, 2, 1, 1, 2, 2, 2, 2, 2, 2, 2, 2, 2, 2, 2, 2, 2, 2, 2, 2, 2, 2, 1, 2, 2, 2, 2, 2, 2, 1, 2, 2, 2, 2, 2, 2, 2, 2, 2, 2, 2, 1, 2, 2, 2, 2, 2, 2, 2, 1, 2, 2, 2, 0, 2, 2, 0, 2, 2, 2, 2, 1, 2, 2, 2, 2, 0, 0, 0, 0]
def ab_cliL : List Nat := [0, 0, 0, 0, 0, 0, 0, 0, 0, 0, 0, 0, 0, 0, 0, 0, 0, 0, 0, 0, 0, 0, 0, 0, 0, 0, 0, 0, 0, 0, 0, 0, 0, 0, 0, 0, 0, 0, 0, 0, 0, 0, 0, 0, 0, 0, 0, 0, 0, 0, 0, 0, 0, 0, 0, 0, 0, 0, 9, 9, 9, 9, 9, 9, 9, 9, 9, 9, 9, 9, 9, 9, 9, 9, 9, 9, 9, 9, 9, 9, 9, 9, 9, 9, 9, 9, 9, 9, 9, 9, 9, 9, 9, 9, 9, 9, 9, 9, 9, 9, 9, 9, 9, 9, 9, 9, 9, 9, 9, 9, 9, 9, 9, 9, 9, 9, 9, 9, 9, 9, 9, 9, 9, 9, 9, 9, 9, 9, 9, 9, 9, 9, 9, 9, 9, 9, 9, 9, 9, 9, 9, 9, 9, 9, 9, 9, 9, 9, 9, 9, 9, 9, 9, 9, 9, 9, 9, 9, 9, 9, 9, 9, 9, 9, 9, 9, 1, 1, 1, 1, 1, 1, 1, 1, 1, 1, 1, 1, 1, 5, 7, 7, 7, 7, 7, 7, 7, 7, 7, 7, 7, 7, 7, 7, 7, 7, 7, 7, 7, 3, 3, 3, 3, 3, 3, 3, 2, 2, 2, 2, 2, 2, 2, 2, 2, 2, 2, 2, 4, 4, 4, 4, 4, 4, 4, 4, 6, 6, 6, 6, 6, 6, 6, 6, 6, 6, 6, 6, 8, 8, 8, 8, 8, 8, 8, 10, 10]
def ab_narL : List Nat := [0, 5, 1, 1, 2, 6, 5, 2, 2, 3, 2, 3, 3, 1, 1, 1, 3, 1, 1, 1, 2, 1, 2, 1, 2, 2, 2, 1, 2, 2, 3, 0, 0, 0, 1, 1, 0, 1, 1, 1, 1, 3, 2, 1, 5, 0, 1, 1, 2, 2, 2, 1, 2, 1, 2, 0, 1, 1, 0, 0, 5, 0, 1, 1, 0, 0, 0, 1, 0, 2, 1, 2, 4, 3, 2, 0, 0, 4, 0, 0, 0, 0, 0, 1, 0, 0, 0, 1, 0, 1, 1, 0, 0, 2, 4, 0, 0, 0, 0, 0, 0, 1, 1, 1, 2, 1, 1, 1, 1, 5, 1, 1, 4, 3, 4, 0, 0, 1, 1, 2, 1, 0, 7, 6, 5, 1, 2, 2, 3, 1, 2, 3, 3, 1, 1, 1, 1, 3, 1, 1, 2, 1, 1, 2, 1, 1, 2, 2, 1, 1, 2, 2, 2, 1, 1, 1, 1, 2, 2, 1, 0, 3, 0, 0, 0, 1, 0, 0, 1, 1, 0, 6, 2, 1, 1, 2, 1, 0, 1, 0, 1, 3, 1, 0, 0, 0, 0, 0, 0, 1, 2, 2, 1, 0, 0, 2, 0, 0, 1, 0, 2, 1, 1, 1, 1, 2, 0, 2, 4, 2, 2, 2, 4, 2, 2, 2, 0, 0, 0, 0, 1, 2, 2, 2, 1, 1, 0, 0, 1, 1, 3, 1, 3, 2, 2, 5, 4, 3, 1, 1, 0, 0, 0, 1, 1, 4, 1]
def ab_btL : List ByteArray := [prog_1_method_1_code, prog_1_method_2_code, prog_1_method_3_code, prog_1_method_4_code, prog_1_method_5_code, prog_1_method_6_code, prog_1_method_7_code, prog_1_method_8_code, prog_1_method_9_code, prog_1_method_10_code, prog_1_method_11_code, prog_1_method_12_code, prog_1_method_13_code, prog_1_method_14_code, prog_1_method_15_code, prog_1_method_16_code, prog_1_method_17_code, prog_1_method_18_code, prog_1_method_19_code, prog_1_method_20_code, prog_1_method_21_code, prog_1_method_22_code, prog_1_method_23_code, prog_1_method_24_code, prog_1_method_25_code, prog_1_method_26_code, prog_1_method_27_code, prog_1_method_28_code, prog_1_method_29_code, prog_1_method_30_code, prog_1_method_31_code, prog_1_method_32_code, prog_1_method_33_code, prog_1_method_34_code, prog_1_method_35_code, prog_1_method_36_code, prog_1_method_37_code, prog_1_method_38_code, prog_1_method_39_code, prog_1_method_40_code, prog_1_method_41_code, prog_1_method_42_code, prog_1_method_43_code, prog_1_method_44_code, prog_1_method_45_code, prog_1_method_46_code, prog_1_method_47_code, prog_1_method_48_code, prog_1_method_49_code, prog_1_method_50_code, prog_1_method_51_code, prog_1_method_52_code, prog_1_method_53_code, prog_1_method_54_code, prog_1_method_55_code, prog_1_method_56_code, prog_1_method_57_code, prog_1_method_58_code, prog_13_method_1_code, prog_13_method_2_code, prog_13_method_3_code, prog_13_method_4_code, prog_13_method_5_code, prog_13_method_6_code, prog_13_method_7_code, prog_13_method_8_code, prog_13_method_9_code, prog_13_method_10_code, prog_13_method_11_code, prog_13_method_12_code, prog_13_method_13_code, prog_13_method_14_code, prog_13_method_15_code, prog_13_method_16_code, prog_13_method_17_code, prog_13_method_18_code, prog_13_method_19_code, prog_13_method_20_code, prog_13_method_21_code, prog_13_method_22_code, prog_13_method_23_code, prog_13_method_24_code, prog_13_method_25_code, prog_13_method_26_code, prog_13_method_27_code, prog_13_method_28_code, prog_13_method_29_code, prog_13_method_30_code, prog_13_method_31_code, prog_13_method_32_code, prog_13_method_33_code, prog_13_method_34_code, prog_13_method_35_code, prog_13_method_36_code, prog_13_method_37_code, prog_13_method_38_code, prog_13_method_39_code, prog_13_method_40_code, prog_13_method_41_code, prog_13_method_42_code, prog_13_method_43_code, prog_13_method_44_code, prog_13_method_45_code, prog_13_method_46_code, prog_13_method_47_code, prog_13_method_48_code, prog_13_method_49_code, prog_13_method_50_code, prog_13_method_51_code, prog_13_method_52_code, prog_13_method_53_code, prog_13_method_54_code, prog_13_method_55_code, prog_13_method_56_code, prog_13_method_57_code, prog_13_method_58_code, prog_13_method_59_code, prog_13_method_60_code, prog_13_method_61_code, prog_13_method_62_code, prog_13_method_63_code, prog_13_method_64_code, prog_13_method_65_code, prog_13_method_66_code, prog_13_method_67_code, prog_13_method_68_code, prog_13_method_69_code, prog_13_method_70_code, prog_13_method_71_code, prog_13_method_72_code, prog_13_method_73_code, prog_13_method_74_code, prog_13_method_75_code, prog_13_method_76_code, prog_13_method_77_code, prog_13_method_78_code, prog_13_method_79_code, prog_13_method_80_code, prog_13_method_81_code, prog_13_method_82_code, prog_13_method_83_code, prog_13_method_84_code, prog_13_method_85_code, prog_13_method_86_code, prog_13_method_87_code, prog_13_method_88_code, prog_13_method_89_code, prog_13_method_90_code, prog_13_method_91_code, prog_13_method_92_code, prog_13_method_93_code, prog_13_method_94_code, prog_13_method_95_code, prog_13_method_96_code, prog_13_method_97_code, prog_13_method_98_code, prog_13_method_99_code, prog_13_method_100_code, prog_13_method_101_code, prog_13_method_102_code, prog_13_method_103_code, prog_13_method_104_code, prog_13_method_105_code, prog_13_method_106_code, prog_13_method_107_code, prog_13_method_108_code, prog_3_method_1_code, prog_3_method_2_code, prog_3_method_3_code, prog_3_method_4_code, prog_3_method_5_code, prog_3_method_6_code, prog_3_method_7_code, prog_3_method_8_code, prog_3_method_9_code, prog_3_method_10_code, prog_3_method_11_code, prog_3_method_12_code, prog_3_method_13_code, prog_4_method_1_code, prog_5_method_1_code, prog_5_method_2_code, prog_5_method_3_code, prog_5_method_4_code, prog_5_method_5_code, prog_5_method_6_code, prog_5_method_7_code, prog_5_method_8_code, prog_5_method_9_code, prog_5_method_10_code, prog_5_method_11_code, prog_5_method_12_code, prog_5_method_13_code, prog_5_method_14_code, prog_5_method_15_code, prog_5_method_16_code, prog_5_method_17_code, prog_5_method_18_code, prog_5_method_19_code, prog_6_method_1_code, prog_6_method_2_code, prog_6_method_3_code, prog_6_method_4_code, prog_6_method_5_code, prog_6_method_6_code, prog_6_method_7_code, prog_7_method_1_code, prog_7_method_2_code, prog_7_method_3_code, prog_7_method_4_code, prog_7_method_5_code, prog_7_method_6_code, prog_7_method_7_code, prog_7_method_8_code, prog_7_method_9_code, prog_7_method_10_code, prog_7_method_11_code, prog_7_method_12_code, prog_8_method_1_code, prog_8_method_2_code, prog_8_method_3_code, prog_8_method_4_code, prog_8_method_5_code, prog_8_method_6_code, prog_8_method_7_code, prog_8_method_8_code, prog_9_method_1_code, prog_9_method_2_code, prog_9_method_3_code, prog_9_method_4_code, prog_9_method_5_code, prog_9_method_6_code, prog_9_method_7_code, prog_9_method_8_code, prog_9_method_9_code, prog_9_method_10_code, prog_9_method_11_code, prog_9_method_12_code, prog_10_method_1_code, prog_10_method_2_code, prog_10_method_3_code, prog_10_method_4_code, prog_10_method_5_code, prog_10_method_6_code, prog_10_method_7_code, method_3_code, code]
def ab_layL : List (List Nat) := [[1096, 1098, 1100, 1102, 1104, 1106, 1108, 1110, 1112, 1114, 1116, 1118, 1120, 1122, 1124, 1126, 1128, 1130], [205, 207, 209, 211, 213, 215, 217, 219, 221, 223, 225], [1003, 1005, 1007, 1009, 1011, 1013, 1015], [1032, 1034, 1036, 1038], [1050, 1052], [1069, 1071, 1073, 1075], [137, 139, 141, 143, 145, 147, 149, 151, 153, 155, 157, 159, 161], [89, 91, 93, 95, 97, 99, 101, 103], [60, 62, 64, 66, 68, 70, 72, 74], [4158, 4160, 4162, 4164, 4166, 4168, 4170, 4172, 4174, 4176, 4178, 4180, 4182, 4184, 4186, 4188, 4190, 4192, 4194, 4196, 4198, 4200, 4202, 4204, 4206, 4208, 4210, 4212, 4214, 4216, 4218, 4220, 4222, 4224, 4226, 4228, 4230, 4232, 4234, 4236, 4238, 5000, 5002, 5004, 5006, 5008]]
def ab_insL : List (Nat × Nat) := [(26, 1), (165, 7), (229, 8), (1019, 9), (1042, 10), (1057, 11), (107, 6), (34, 2), (40, 3), (4051, 12)]
def ab_p_max_static : Nat := 2059
def ab_p_min_static : Nat := 1162
def ab_p_math_ini : Nat := 13
def ab_p_cpy_native : Nat := 2079
def ab_p_cpy_static : Nat := 2078
def ab_p_sys_ini : Nat := 15
def ab_p_obj_inst : Nat := 31
def ab_p_ac_int : Nat := 78
def ab_p_ac_byte : Nat := 77
def ab_p_ac_bool : Nat := 5011
def ab_p_ac_long : Nat := 6190
def ab_p_max_code : Nat := 2060
def ab_p_min_code : Nat := 1163
def ab_p_obj_code : Nat := 32
end
section
/-! THE ABSTRACT MACHINE IS SOUND, part 1: what the tables say of the bytes; the world's picture; the steps that touch locals and stack alone. -/
def ab_m (k : Nat) : String × String × String × Nat × Option FieldType × Nat × Nat × Nat × Nat := (ab_nth ab_mL k).getD ("", "", "", 0, none, 0, 0, 0, 0)
def ab_own (k : Nat) : String := (ab_m k).1
def ab_yn (k : Nat) : MethodName := ⟨(ab_m k).1, (ab_m k).2.1, (ab_m k).2.2.1⟩
def ab_mxl (k : Nat) : Nat := (ab_m k).2.2.2.1
def ab_rty (k : Nat) : Option FieldType := (ab_m k).2.2.2.2.1
def ab_nar (k : Nat) : Nat := (ab_nth ab_narL k).getD 0
def ab_bts (k : Nat) : ByteArray := (ab_nth ab_btL k).getD code
def ab_ax (k i : Nat) : Nat × Nat × Nat × Nat := (ab_nth ((ab_nth ab_axL k).getD []) i).getD (0, 0, 0, 0)
def ab_pc (k i : Nat) : Nat := (ab_ax k i).1
def ab_isN : Cond → Bool
  | .fieldLinkNest .. => true
  | .methodLinkNest .. => true
  | _ => false
/-- the tables' words in pieces: a place is 1000 times the piece and the place in it -/
def ab_pce (c : Nat) : List Cond := match c with
  | 0 => tables_1_1
  | 1 => tables_1_2
  | 2 => tables_1_3
  | 3 => tables_1_4
  | 4 => tables_1_5
  | 5 => tables_1_6
  | 6 => tables_1_7
  | 7 => k2_sels lw_privs_1
  | 8 => k2_sels lw_privs_2
  | 9 => k2_sels lw_privs_3
  | 10 => k2_sels lw_privs_4
  | 11 => k2_sels lw_privs_5
  | 12 => k2_sels lw_privs_6
  | 13 => k2_sels lw_privs_7
  | 14 => k2_sels lw_privs_8
  | 15 => k2_sels lw_privs_9
  | 16 => k2_sels lw_privs_10
  | _ => []
def ab_gw (pl : Nat) : Option Cond := ab_nth (ab_pce (pl / 1000)) (pl % 1000)
theorem ab_pce_in {c : Nat} {w : Cond} (h : w ∈ ab_pce c) : w ∈ lw_tbl := by
  unfold ab_pce at h
  split at h <;> first
    | (simp only [lw_tbl, tables_1, List.mem_append]; simp only [h, true_or, or_true]; done)
    | (simp only [lw_tbl, lw_privs, k2_sels, List.map_append, List.mem_append] at h ⊢; simp only [h, true_or, or_true]; done)
    | (cases h)
def ab_TB : List Cond := lw_tbl.filter goodWord
def ab_NW : List Cond := lw_tbl.filter ab_isN
theorem ab_nth_mem {α : Type} : ∀ {l : List α} {i : Nat} {a : α}, ab_nth l i = some a → a ∈ l := by
  intro l
  induction l with
  | nil => intro i a h; simp [ab_nth] at h
  | cons x t ih =>
    intro i a h
    cases i with
    | zero => simp [ab_nth] at h; exact h ▸ List.mem_cons_self
    | succ i => exact List.mem_cons_of_mem _ (ih h)
theorem ab_in_TB {pl : Nat} {w : Cond} (h : ab_gw pl = some w) (hg : goodWord w = true) : w ∈ ab_TB := List.mem_filter.mpr ⟨ab_pce_in (ab_nth_mem h), hg⟩
theorem ab_in_NW {pl : Nat} {w : Cond} (h : ab_gw pl = some w) (hg : ab_isN w = true) : w ∈ ab_NW := List.mem_filter.mpr ⟨ab_pce_in (ab_nth_mem h), hg⟩
def ab_T (c : Nat) : u_T := fun k => ((ab_cls c).1, (ab_fld c k).1, (ab_fld c k).2.1, (ab_fld c k).2.2.1)
def ab_clsK : List vw_C := (List.range 10).map fun c => ((ab_cls c).1, ab_T c, ab_nF c)
theorem ab_clsK_at {c : Nat} (h : c < 10) : ab_clsK[c]? = some ((ab_cls c).1, ab_T c, ab_nF c) := by
  simp [ab_clsK, List.getElem?_map, List.getElem?_range, h]
def ab_ty (c k : Nat) : FieldType := (parseFieldDescriptor (ab_fld c k).2.1).getD .int
/-- a field's link: own is the name of the kind that reads it -/
def ab_lkW (own : String) (cp fl c a : Nat) : Cond := match fl with
  | 0 => .fieldLink own cp (ab_cls c).1 (ab_fld c a).1 (ab_fld c a).2.1
  | _ => .fieldLinkNest own cp (ab_cls c).1 (ab_fld c a).1 (ab_fld c a).2.1 "EventLedger"
def ab_fB (c a : Nat) (tg : List Nat) : Bool := Nat.blt c 10 && Nat.blt a (ab_nF c) && tg.contains (ab_fld c a).2.2.2
def ab_ifI (b : Int) (off : Int) : Instr := match b with
  | 0 => .ifCond .eq off
  | 1 => .ifCond .ne off
  | 2 => .ifCond .lt off
  | 3 => .ifCond .ge off
  | 4 => .ifCond .gt off
  | _ => .ifCond .le off
def ab_icI (b : Int) (off : Int) : Instr := match b with
  | 0 => .if_icmp .eq off
  | 1 => .if_icmp .ne off
  | 2 => .if_icmp .lt off
  | 3 => .if_icmp .ge off
  | 4 => .if_icmp .gt off
  | _ => .if_icmp .le off
def ab_atI (t : Nat) : ArrayType := match t with
  | 0 => .int
  | 1 => .byte
  | 2 => .boolean
  | _ => .long
/-- 0: static, 1: a constructor, 2: by its receiver -/
def ab_knd (k : Nat) : Nat := (ab_nth ab_kndL k).getD 0
def ab_cli (k : Nat) : Nat := (ab_nth ab_cliL k).getD 0
/-- a method that is called -/
def ab_mk (k : Nat) : Bool :=
  decide ((ab_yn k).cls ≠ "java/lang/invoke/MethodHandle") && decide ((ab_yn k).cls ≠ "java/lang/invoke/VarHandle") &&
  decide ((parseMethodDescriptor (ab_yn k).desc).map (fun d => d.parameters.length) = some (ab_nar k)) && Nat.ble (ab_mxl k) 19 && plainName (ab_yn k).cls &&
  (match ab_knd k with
  | 0 => decide (ab_rcv k = -1)
  | 1 => decide (ab_rcv k = (ab_cli k : Int)) && Nat.blt (ab_cli k) 10 && decide (ab_rty k = none)
  | _ => decide (ab_rcv k = (ab_cli k : Int)) && Nat.blt (ab_cli k) 10)
/-- the words of a method that is called, and where they stand -/
def ab_mw (k : Nat) : List (Nat × Cond) :=
  [((ab_m k).2.2.2.2.2.1, .code (ab_yn k) (ab_bts k) (ab_mxl k) (ab_rty k)), ((ab_m k).2.2.2.2.2.2.2.2, .initialized (ab_m k).1)] ++ (match ab_knd k with
  | 0 => [((ab_m k).2.2.2.2.2.2.1, .static (ab_yn k))]
  | 1 => [((ab_m k).2.2.2.2.2.2.1, .instanceMethod (ab_yn k))]
  | _ => [((ab_m k).2.2.2.2.2.2.1, .instanceMethod (ab_yn k)), ((ab_m k).2.2.2.2.2.2.2.1, .selects (ab_yn k).cls (ab_yn k) (ab_yn k))])
/-- what its names are -/
def ab_ms (k : Nat) : String × String := ((ab_m k).1, match ab_knd k with
  | 1 => (ab_yn k).name
  | _ => "<init>")
def ab_ms2 (k : Nat) : String × String := (match ab_cli k with
  | 10 => "EventLedgerLaw"
  | c => (ab_cls c).1, "<init>")
/-- the words of a place -/
def ab_nw (k i : Nat) (o : ab_O) : List (Nat × Cond) :=
  let x := ab_ax k i
  match o.1 with
  | 1 => [(x.2.2.1, match x.2.2.2 with
    | 0 => .methodLink (ab_own k) x.2.1 (ab_yn o.2.1)
    | _ => .methodLinkNest (ab_own k) x.2.1 (ab_yn o.2.1) "EventLedger")]
  | 2 => match x.2.2.2 with
    | 9 => [(x.2.2.1, .constant (ab_own k) x.2.1 (Int32.ofInt o.2.2.1))]
    | _ => []
  | 35 => [(x.2.2.1, ab_lkW (ab_own k) x.2.1 x.2.2.2 o.2.2.1.toNat o.2.1)]
  | 37 => [(x.2.2.1, ab_lkW (ab_own k) x.2.1 x.2.2.2 o.2.2.1.toNat o.2.1)]
  | 38 => [(x.2.2.1, ab_lkW (ab_own k) x.2.1 x.2.2.2 o.2.2.1.toNat o.2.1)]
  | 39 => [(x.2.2.1, ab_lkW (ab_own k) x.2.1 x.2.2.2 o.2.2.1.toNat o.2.1)]
  | 40 => [(x.2.2.1, ab_lkW (ab_own k) x.2.1 x.2.2.2 o.2.2.1.toNat o.2.1)]
  | 41 => [(x.2.2.1, ab_lkW (ab_own k) x.2.1 x.2.2.2 o.2.2.1.toNat o.2.1)]
  | 42 => [(x.2.2.1, match o.2.2.1, x.2.2.2 with
      | -3, 0 => .fieldLink (ab_own k) x.2.1 "EventLedger" "WORDS" "[LEventLedger$Word;"
      | -3, _ => .fieldLinkNest (ab_own k) x.2.1 "EventLedger" "WORDS" "[LEventLedger$Word;" "EventLedger"
      | -4, _ => .fieldLink (ab_own k) x.2.1 "EventLedger$1" "$SwitchMap$EventLedger$Word" "[I"
      | _, _ => .fieldLink (ab_own k) x.2.1 "EventLedger$Word" "ACCOUNT" "LEventLedger$Word;")]
  | 52 => [(x.2.2.1, .classLink (ab_own k) x.2.1 (ab_cls o.2.1).1), (((ab_nth ab_insL o.2.1).getD (0, 0)).1, .instantiable (ab_cls o.2.1).1 (ab_nF o.2.1)), (((ab_nth ab_insL o.2.1).getD (0, 0)).2, .initialized (ab_cls o.2.1).1)]
  | 54 => [(x.2.2.1, .classLink (ab_own k) x.2.1 "EventLedger$Mark")]
  | 55 => [(x.2.2.1, .methodLink (ab_own k) x.2.1 Lib.Math.max.name)]
  | 56 => [(x.2.2.1, .methodLink (ab_own k) x.2.1 Lib.Math.min.name)]
  | 57 => [(x.2.2.1, .methodLink (ab_own k) x.2.1 arraycopyName)]
  | 58 => [(x.2.2.1, .methodLink (ab_own k) x.2.1 Lib.objectInit)]
  | 65 => [(x.2.2.1, match o.2.1, x.2.2.2 with
      | 1, 0 => .fieldLink (ab_own k) x.2.1 "EventLedger$Word" "code" "J"
      | 1, _ => .fieldLinkNest (ab_own k) x.2.1 "EventLedger$Word" "code" "J" "EventLedger"
      | 2, 0 => .fieldLink (ab_own k) x.2.1 "EventLedger$Word" "kind" "I"
      | 2, _ => .fieldLinkNest (ab_own k) x.2.1 "EventLedger$Word" "kind" "I" "EventLedger"
      | _, 0 => .fieldLink (ab_own k) x.2.1 "EventLedger$Word" "op" "I"
      | _, _ => .fieldLinkNest (ab_own k) x.2.1 "EventLedger$Word" "op" "I" "EventLedger")]
  | 66 => [(x.2.2.1, .methodLink (ab_own k) x.2.1 ⟨"EventLedger$Word", "ordinal", "()I"⟩)]
  | 69 => [(x.2.2.1, .methodLink (ab_own k) x.2.1 ⟨"java/lang/String", "length", "()I"⟩)]
  | 70 => [(x.2.2.1, .methodLink (ab_own k) x.2.1 ⟨"java/lang/String", "charAt", "(I)C"⟩)]
  | _ => []
def ab_alt (k i : Nat) (o : ab_O) : List (Instr × Nat × Bool) :=
  let x := ab_ax k i
  let tg : Nat → Int := fun t => (ab_pc k t : Int) - (ab_pc k i : Int)
  match o.1 with
  | 0 => match o.2.1 with
    | 0 => [(.return_, 1, decide (ab_rty k = none))]
    | 1 => [(.ireturn, 1, decide (ab_rty k = some .int))]
    | _ => [(.ireturn, 1, decide (ab_rty k = some .boolean))]
  | 1 => match ab_knd o.2.1 with
    | 0 => [(.invokestatic x.2.1, 3, Nat.beq o.2.2.1.toNat (ab_nar o.2.1) && Nat.blt o.2.1 245 && Nat.beq x.2.2.2 0 && Nat.beq (ab_cli k) (ab_cli o.2.1))]
    | 1 => [(.invokespecial x.2.1, 3, Nat.beq o.2.2.1.toNat (ab_nar o.2.1 + 1) && Nat.blt o.2.1 245 && Nat.blt x.2.2.2 2)]
    | _ => [(.invokevirtual x.2.1, 3, Nat.beq o.2.2.1.toNat (ab_nar o.2.1 + 1) && Nat.blt o.2.1 245 && Nat.blt x.2.2.2 2)]
  | 2 => [(.iconst o.2.2.1, 1, true), (.bipush o.2.2.1, 2, decide ((Int8.ofInt o.2.2.1).toInt32 = Int32.ofInt o.2.2.1)), (.sipush o.2.2.1, 3, decide ((Int16.ofInt o.2.2.1).toInt32 = Int32.ofInt o.2.2.1)), (.ldc x.2.1, 2, Nat.beq x.2.2.2 9), (.ldc_w x.2.1, 3, Nat.beq x.2.2.2 9)]
  | 3 => [(.iload o.2.1, 2, true), (.iload_n (Fin.ofNat 4 o.2.1), 1, Nat.blt o.2.1 4)]
  | 4 => [(.lload o.2.1, 2, true), (.lload_n (Fin.ofNat 4 o.2.1), 1, Nat.blt o.2.1 4)]
  | 5 => [(.aload o.2.1, 2, true), (.aload_n (Fin.ofNat 4 o.2.1), 1, Nat.blt o.2.1 4)]
  | 6 => [(.istore o.2.1, 2, Nat.blt o.2.1 (ab_mxl k)), (.istore_n (Fin.ofNat 4 o.2.1), 1, Nat.blt o.2.1 4 && Nat.blt o.2.1 (ab_mxl k))]
  | 7 => [(.lstore o.2.1, 2, Nat.blt (o.2.1 + 1) (ab_mxl k)), (.lstore_n (Fin.ofNat 4 o.2.1), 1, Nat.blt o.2.1 4 && Nat.blt (o.2.1 + 1) (ab_mxl k))]
  | 8 => [(.astore o.2.1, 2, Nat.blt o.2.1 (ab_mxl k)), (.astore_n (Fin.ofNat 4 o.2.1), 1, Nat.blt o.2.1 4 && Nat.blt o.2.1 (ab_mxl k))]
  | 9 => [(.iinc o.2.1 o.2.2.1, 3, Nat.blt o.2.1 (ab_mxl k))]
  | 10 => [(.iadd, 1, true)]
  | 11 => [(.isub, 1, true)]
  | 12 => [(.imul, 1, true)]
  | 13 => [(.iand, 1, true)]
  | 14 => [(.ior, 1, true)]
  | 15 => [(.ixor, 1, true)]
  | 16 => [(.ishl, 1, true)]
  | 17 => [(.ishr, 1, true)]
  | 18 => [(.iushr, 1, true)]
  | 19 => [(.irem, 1, true)]
  | 20 => [(.ineg, 1, true)]
  | 21 => [(.i2b, 1, true)]
  | 22 => [(.i2l, 1, true)]
  | 23 => [(.l2i, 1, true)]
  | 24 => [(.lor, 1, true)]
  | 25 => [(.lshl, 1, true)]
  | 26 => [(.lcmp, 1, true)]
  | 27 => [(.lconst 0, 1, decide (o.2.2.1 = 0))]
  | 28 => [(.dup, 1, true)]
  | 29 => [(.dup2, 1, true)]
  | 30 => [(.pop, 1, true)]
  | 31 => [(.goto (tg o.2.1), 3, true)]
  | 32 => [(ab_ifI o.2.2.1 (tg o.2.1), 3, true)]
  | 33 => [(ab_icI o.2.2.1 (tg o.2.1), 3, true)]
  | 34 => match ab_nth ab_tsL o.2.1 with
    | some q => [(.tableswitch (tg q.2.1) q.1 (q.1 + q.2.2.length - 1) (q.2.2.map tg).toArray, 1 + (3 - ab_pc k i % 4) + 12 + 4 * q.2.2.length, decide (0 < q.2.2.length) && decide (-1000 < q.1 ∧ q.1 < 1000))]
    | none => []
  | 35 => [(.getfield x.2.1, 3, ab_fB o.2.2.1.toNat o.2.1 [0, 3] && decide (0 ≤ o.2.2.1) && Nat.blt x.2.2.2 2)]
  | 37 => [(.getfield x.2.1, 3, ab_fB o.2.2.1.toNat o.2.1 [2] && decide (0 ≤ o.2.2.1) && Nat.blt x.2.2.2 2)]
  | 38 => [(.putfield x.2.1, 3, ab_fB o.2.2.1.toNat o.2.1 [0, 3] && decide (ab_ty o.2.2.1.toNat o.2.1 = .int) && decide (0 ≤ o.2.2.1) && !(ab_fld o.2.2.1.toNat o.2.1).2.2.1 && Nat.blt x.2.2.2 2)]
  | 39 => [(.putfield x.2.1, 3, ab_fB o.2.2.1.toNat o.2.1 [3] && decide (ab_ty o.2.2.1.toNat o.2.1 = .boolean) && decide (0 ≤ o.2.2.1) && !(ab_fld o.2.2.1.toNat o.2.1).2.2.1 && Nat.blt x.2.2.2 2)]
  | 40 => [(.putfield x.2.1, 3, ab_fB o.2.2.1.toNat o.2.1 [2] && (ab_ty o.2.2.1.toNat o.2.1).isReference && decide (0 ≤ o.2.2.1) && !(ab_fld o.2.2.1.toNat o.2.1).2.2.1 && Nat.blt x.2.2.2 2)]
  | 41 => [(.putfield x.2.1, 3, ab_fB o.2.2.1.toNat o.2.1 [2] && (ab_ty o.2.2.1.toNat o.2.1).isReference && decide (0 ≤ o.2.2.1) && (ab_fld o.2.2.1.toNat o.2.1).2.2.1 && Nat.beq (ab_knd k) 1 && Nat.blt k 245 && Nat.beq (ab_cli k) o.2.2.1.toNat && Nat.beq x.2.2.2 0)]
  | 42 => [(.getstatic x.2.1, 3, (decide (o.2.2.1 = -3) && Nat.blt x.2.2.2 2) || ((decide (o.2.2.1 = -4) || decide (o.2.2.1 = -5)) && Nat.beq x.2.2.2 0))]
  | 43 => [(.iaload, 1, true)]
  | 44 => [(.baload, 1, true)]
  | 45 => [(.baload, 1, true)]
  | 46 => [(.laload, 1, true)]
  | 47 => [(.aaload, 1, true)]
  | 48 => [(.iastore, 1, true)]
  | 49 => [(.bastore, 1, true)]
  | 50 => [(.bastore, 1, true)]
  | 51 => [(.lastore, 1, true)]
  | 52 => [(.new x.2.1, 3, Nat.blt o.2.1 10)]
  | 53 => [(.newarray (ab_atI o.2.1), 2, Nat.blt o.2.1 4)]
  | 54 => [(.anewarray x.2.1, 3, true)]
  | 55 => [(.invokestatic x.2.1, 3, Nat.ble 1 (ab_dep k))]
  | 56 => [(.invokestatic x.2.1, 3, Nat.ble 1 (ab_dep k))]
  | 57 => [(.invokestatic x.2.1, 3, Nat.ble 1 (ab_dep k))]
  | 58 => [(.invokespecial x.2.1, 3, Nat.ble 1 (ab_dep k))]
  | 60 => [(.aastore, 1, true)]
  | 61 => [(.arraylength, 1, Nat.blt o.2.1 4)]
  | 62 => [(.arraylength, 1, true)]
  | 63 => [(.aaload, 1, true)]
  | 64 => [(.iaload, 1, true)]
  | 65 => [(.getfield x.2.1, 3, Nat.ble 1 o.2.1 && Nat.ble o.2.1 3 && Nat.blt x.2.2.2 2)]
  | 66 => [(.invokevirtual x.2.1, 3, Nat.ble 1 (ab_dep k))]
  | 67 => [(.iaload, 1, true)]
  | 68 => [(.arraylength, 1, true)]
  | 69 => [(.invokevirtual x.2.1, 3, Nat.ble 2 (ab_dep k))]
  | 70 => [(.invokevirtual x.2.1, 3, Nat.ble 4 (ab_dep k))]
  | 71 => [(.ldc x.2.1, 2, Nat.beq x.2.1 135 && Nat.beq k 65)]
  | _ => []
def ab_jmp (op : Nat) : Bool := Nat.beq op 0 || Nat.beq op 31 || Nat.beq op 34
def ab_ck (k i : Nat) : Bool := match ab_nth (ab_cod k) i with
  | none => true
  | some o => Nat.ble 72 o.1 || (ab_alt k i o).any fun q => decide (decode (ab_bts k) (ab_pc k i) = .ok (q.1, q.2.1)) && q.2.2 && (ab_jmp o.1 || Nat.beq (ab_pc k o.2.2.2) (ab_pc k i + q.2.1))
/-- every word of a place is of the good ones, or a nest's -/
def ab_ckw (k i : Nat) : Bool := match ab_nth (ab_cod k) i with
  | none => true
  | some o => (ab_nw k i o).all fun q => goodWord q.2 || ab_isN q.2
def ab_gwI (k i : Nat) : List (Option Cond) := match ab_nth (ab_cod k) i with
  | none => []
  | some o => (ab_nw k i o).map fun q => ab_gw q.1
def ab_ewI (k i : Nat) : List (Option Cond) := match ab_nth (ab_cod k) i with
  | none => []
  | some o => (ab_nw k i o).map fun q => some q.2
def ab_gwM (k : Nat) : List (List (Option Cond)) := (List.range (ab_cod k).length).map (ab_gwI k)
def ab_ewM (k : Nat) : List (List (Option Cond)) := (List.range (ab_cod k).length).map (ab_ewI k)
end
section
theorem ab_ckg0 : (List.range' 0 7).all (fun k => (List.range (ab_cod k).length).all (fun i => ab_ck k i && ab_ckw k i)) = true := by decide +kernel
set_option maxRecDepth 100000 in
theorem ab_cwg0 : (List.range' 0 7).map ab_gwM = (List.range' 0 7).map ab_ewM := rfl
theorem ab_ckg1 : (List.range' 7 9).all (fun k => (List.range (ab_cod k).length).all (fun i => ab_ck k i && ab_ckw k i)) = true := by decide +kernel
set_option maxRecDepth 100000 in
theorem ab_cwg1 : (List.range' 7 9).map ab_gwM = (List.range' 7 9).map ab_ewM := rfl
theorem ab_ckg2 : (List.range' 16 7).all (fun k => (List.range (ab_cod k).length).all (fun i => ab_ck k i && ab_ckw k i)) = true := by decide +kernel
set_option maxRecDepth 100000 in
theorem ab_cwg2 : (List.range' 16 7).map ab_gwM = (List.range' 16 7).map ab_ewM := rfl
theorem ab_ckg3 : (List.range' 23 7).all (fun k => (List.range (ab_cod k).length).all (fun i => ab_ck k i && ab_ckw k i)) = true := by decide +kernel
set_option maxRecDepth 100000 in
theorem ab_cwg3 : (List.range' 23 7).map ab_gwM = (List.range' 23 7).map ab_ewM := rfl
theorem ab_ckg4 : (List.range' 30 7).all (fun k => (List.range (ab_cod k).length).all (fun i => ab_ck k i && ab_ckw k i)) = true := by decide +kernel
set_option maxRecDepth 100000 in
theorem ab_cwg4 : (List.range' 30 7).map ab_gwM = (List.range' 30 7).map ab_ewM := rfl
theorem ab_ckg5 : (List.range' 37 14).all (fun k => (List.range (ab_cod k).length).all (fun i => ab_ck k i && ab_ckw k i)) = true := by decide +kernel
set_option maxRecDepth 100000 in
theorem ab_cwg5 : (List.range' 37 14).map ab_gwM = (List.range' 37 14).map ab_ewM := rfl
theorem ab_ckg6 : (List.range' 51 8).all (fun k => (List.range (ab_cod k).length).all (fun i => ab_ck k i && ab_ckw k i)) = true := by decide +kernel
set_option maxRecDepth 100000 in
theorem ab_cwg6 : (List.range' 51 8).map ab_gwM = (List.range' 51 8).map ab_ewM := rfl
theorem ab_ckg7 : (List.range' 59 7).all (fun k => (List.range (ab_cod k).length).all (fun i => ab_ck k i && ab_ckw k i)) = true := by decide +kernel
set_option maxRecDepth 100000 in
theorem ab_cwg7 : (List.range' 59 7).map ab_gwM = (List.range' 59 7).map ab_ewM := rfl
theorem ab_ckg8 : (List.range' 66 12).all (fun k => (List.range (ab_cod k).length).all (fun i => ab_ck k i && ab_ckw k i)) = true := by decide +kernel
set_option maxRecDepth 100000 in
theorem ab_cwg8 : (List.range' 66 12).map ab_gwM = (List.range' 66 12).map ab_ewM := rfl
end
section
theorem ab_ckg9 : (List.range' 78 5).all (fun k => (List.range (ab_cod k).length).all (fun i => ab_ck k i && ab_ckw k i)) = true := by decide +kernel
set_option maxRecDepth 100000 in
theorem ab_cwg9 : (List.range' 78 5).map ab_gwM = (List.range' 78 5).map ab_ewM := rfl
theorem ab_ckg10 : (List.range' 83 1).all (fun k => (List.range (ab_cod k).length).all (fun i => ab_ck k i && ab_ckw k i)) = true := by decide +kernel
set_option maxRecDepth 100000 in
theorem ab_cwg10 : (List.range' 83 1).map ab_gwM = (List.range' 83 1).map ab_ewM := rfl
theorem ab_ckg11 : (List.range' 84 4).all (fun k => (List.range (ab_cod k).length).all (fun i => ab_ck k i && ab_ckw k i)) = true := by decide +kernel
set_option maxRecDepth 100000 in
theorem ab_cwg11 : (List.range' 84 4).map ab_gwM = (List.range' 84 4).map ab_ewM := rfl
theorem ab_ckg12 : (List.range' 88 8).all (fun k => (List.range (ab_cod k).length).all (fun i => ab_ck k i && ab_ckw k i)) = true := by decide +kernel
set_option maxRecDepth 100000 in
theorem ab_cwg12 : (List.range' 88 8).map ab_gwM = (List.range' 88 8).map ab_ewM := rfl
theorem ab_ckg13 : (List.range' 96 10).all (fun k => (List.range (ab_cod k).length).all (fun i => ab_ck k i && ab_ckw k i)) = true := by decide +kernel
set_option maxRecDepth 100000 in
theorem ab_cwg13 : (List.range' 96 10).map ab_gwM = (List.range' 96 10).map ab_ewM := rfl
theorem ab_ckg14 : (List.range' 106 4).all (fun k => (List.range (ab_cod k).length).all (fun i => ab_ck k i && ab_ckw k i)) = true := by decide +kernel
set_option maxRecDepth 100000 in
theorem ab_cwg14 : (List.range' 106 4).map ab_gwM = (List.range' 106 4).map ab_ewM := rfl
theorem ab_ckg15 : (List.range' 110 3).all (fun k => (List.range (ab_cod k).length).all (fun i => ab_ck k i && ab_ckw k i)) = true := by decide +kernel
set_option maxRecDepth 100000 in
theorem ab_cwg15 : (List.range' 110 3).map ab_gwM = (List.range' 110 3).map ab_ewM := rfl
theorem ab_ckg16 : (List.range' 113 3).all (fun k => (List.range (ab_cod k).length).all (fun i => ab_ck k i && ab_ckw k i)) = true := by decide +kernel
set_option maxRecDepth 100000 in
theorem ab_cwg16 : (List.range' 113 3).map ab_gwM = (List.range' 113 3).map ab_ewM := rfl
theorem ab_ckg17 : (List.range' 116 11).all (fun k => (List.range (ab_cod k).length).all (fun i => ab_ck k i && ab_ckw k i)) = true := by decide +kernel
set_option maxRecDepth 100000 in
theorem ab_cwg17 : (List.range' 116 11).map ab_gwM = (List.range' 116 11).map ab_ewM := rfl
end
section
theorem ab_ckg18 : (List.range' 127 10).all (fun k => (List.range (ab_cod k).length).all (fun i => ab_ck k i && ab_ckw k i)) = true := by decide +kernel
set_option maxRecDepth 100000 in
theorem ab_cwg18 : (List.range' 127 10).map ab_gwM = (List.range' 127 10).map ab_ewM := rfl
theorem ab_ckg19 : (List.range' 137 7).all (fun k => (List.range (ab_cod k).length).all (fun i => ab_ck k i && ab_ckw k i)) = true := by decide +kernel
set_option maxRecDepth 100000 in
theorem ab_cwg19 : (List.range' 137 7).map ab_gwM = (List.range' 137 7).map ab_ewM := rfl
theorem ab_ckg20 : (List.range' 144 7).all (fun k => (List.range (ab_cod k).length).all (fun i => ab_ck k i && ab_ckw k i)) = true := by decide +kernel
set_option maxRecDepth 100000 in
theorem ab_cwg20 : (List.range' 144 7).map ab_gwM = (List.range' 144 7).map ab_ewM := rfl
theorem ab_ckg21 : (List.range' 151 6).all (fun k => (List.range (ab_cod k).length).all (fun i => ab_ck k i && ab_ckw k i)) = true := by decide +kernel
set_option maxRecDepth 100000 in
theorem ab_cwg21 : (List.range' 151 6).map ab_gwM = (List.range' 151 6).map ab_ewM := rfl
theorem ab_ckg22 : (List.range' 157 6).all (fun k => (List.range (ab_cod k).length).all (fun i => ab_ck k i && ab_ckw k i)) = true := by decide +kernel
set_option maxRecDepth 100000 in
theorem ab_cwg22 : (List.range' 157 6).map ab_gwM = (List.range' 157 6).map ab_ewM := rfl
theorem ab_ckg23 : (List.range' 163 9).all (fun k => (List.range (ab_cod k).length).all (fun i => ab_ck k i && ab_ckw k i)) = true := by decide +kernel
set_option maxRecDepth 100000 in
theorem ab_cwg23 : (List.range' 163 9).map ab_gwM = (List.range' 163 9).map ab_ewM := rfl
theorem ab_ckg24 : (List.range' 172 9).all (fun k => (List.range (ab_cod k).length).all (fun i => ab_ck k i && ab_ckw k i)) = true := by decide +kernel
set_option maxRecDepth 100000 in
theorem ab_cwg24 : (List.range' 172 9).map ab_gwM = (List.range' 172 9).map ab_ewM := rfl
theorem ab_ckg25 : (List.range' 181 7).all (fun k => (List.range (ab_cod k).length).all (fun i => ab_ck k i && ab_ckw k i)) = true := by decide +kernel
set_option maxRecDepth 100000 in
theorem ab_cwg25 : (List.range' 181 7).map ab_gwM = (List.range' 181 7).map ab_ewM := rfl
theorem ab_ckg26 : (List.range' 188 12).all (fun k => (List.range (ab_cod k).length).all (fun i => ab_ck k i && ab_ckw k i)) = true := by decide +kernel
set_option maxRecDepth 100000 in
theorem ab_cwg26 : (List.range' 188 12).map ab_gwM = (List.range' 188 12).map ab_ewM := rfl
end
section
theorem ab_ckg27 : (List.range' 200 9).all (fun k => (List.range (ab_cod k).length).all (fun i => ab_ck k i && ab_ckw k i)) = true := by decide +kernel
set_option maxRecDepth 100000 in
theorem ab_cwg27 : (List.range' 200 9).map ab_gwM = (List.range' 200 9).map ab_ewM := rfl
theorem ab_ckg28 : (List.range' 209 4).all (fun k => (List.range (ab_cod k).length).all (fun i => ab_ck k i && ab_ckw k i)) = true := by decide +kernel
set_option maxRecDepth 100000 in
theorem ab_cwg28 : (List.range' 209 4).map ab_gwM = (List.range' 209 4).map ab_ewM := rfl
theorem ab_ckg29 : (List.range' 213 12).all (fun k => (List.range (ab_cod k).length).all (fun i => ab_ck k i && ab_ckw k i)) = true := by decide +kernel
set_option maxRecDepth 100000 in
theorem ab_cwg29 : (List.range' 213 12).map ab_gwM = (List.range' 213 12).map ab_ewM := rfl
theorem ab_ckg30 : (List.range' 225 11).all (fun k => (List.range (ab_cod k).length).all (fun i => ab_ck k i && ab_ckw k i)) = true := by decide +kernel
set_option maxRecDepth 100000 in
theorem ab_cwg30 : (List.range' 225 11).map ab_gwM = (List.range' 225 11).map ab_ewM := rfl
theorem ab_ckg31 : (List.range' 236 5).all (fun k => (List.range (ab_cod k).length).all (fun i => ab_ck k i && ab_ckw k i)) = true := by decide +kernel
set_option maxRecDepth 100000 in
theorem ab_cwg31 : (List.range' 236 5).map ab_gwM = (List.range' 236 5).map ab_ewM := rfl
theorem ab_ckg32 : (List.range' 241 5).all (fun k => (List.range (ab_cod k).length).all (fun i => ab_ck k i && ab_ckw k i)) = true := by decide +kernel
set_option maxRecDepth 100000 in
theorem ab_cwg32 : (List.range' 241 5).map ab_gwM = (List.range' 241 5).map ab_ewM := rfl
end
section
theorem ab_ckl0 : (List.range' 0 60).all (fun i => ab_ck 246 i && ab_ckw 246 i) = true := by decide +kernel
set_option maxRecDepth 100000 in
theorem ab_cwl0 : (List.range' 0 60).map (ab_gwI 246) = (List.range' 0 60).map (ab_ewI 246) := rfl
theorem ab_ckl1 : (List.range' 60 60).all (fun i => ab_ck 246 i && ab_ckw 246 i) = true := by decide +kernel
set_option maxRecDepth 100000 in
theorem ab_cwl1 : (List.range' 60 60).map (ab_gwI 246) = (List.range' 60 60).map (ab_ewI 246) := rfl
theorem ab_ckl2 : (List.range' 120 60).all (fun i => ab_ck 246 i && ab_ckw 246 i) = true := by decide +kernel
set_option maxRecDepth 100000 in
theorem ab_cwl2 : (List.range' 120 60).map (ab_gwI 246) = (List.range' 120 60).map (ab_ewI 246) := rfl
theorem ab_ckl3 : (List.range' 180 60).all (fun i => ab_ck 246 i && ab_ckw 246 i) = true := by decide +kernel
set_option maxRecDepth 100000 in
theorem ab_cwl3 : (List.range' 180 60).map (ab_gwI 246) = (List.range' 180 60).map (ab_ewI 246) := rfl
theorem ab_ckl4 : (List.range' 240 60).all (fun i => ab_ck 246 i && ab_ckw 246 i) = true := by decide +kernel
set_option maxRecDepth 100000 in
theorem ab_cwl4 : (List.range' 240 60).map (ab_gwI 246) = (List.range' 240 60).map (ab_ewI 246) := rfl
theorem ab_ckl5 : (List.range' 300 60).all (fun i => ab_ck 246 i && ab_ckw 246 i) = true := by decide +kernel
set_option maxRecDepth 100000 in
theorem ab_cwl5 : (List.range' 300 60).map (ab_gwI 246) = (List.range' 300 60).map (ab_ewI 246) := rfl
theorem ab_ckl6 : (List.range' 360 60).all (fun i => ab_ck 246 i && ab_ckw 246 i) = true := by decide +kernel
set_option maxRecDepth 100000 in
theorem ab_cwl6 : (List.range' 360 60).map (ab_gwI 246) = (List.range' 360 60).map (ab_ewI 246) := rfl
theorem ab_ckl7 : (List.range' 420 60).all (fun i => ab_ck 246 i && ab_ckw 246 i) = true := by decide +kernel
set_option maxRecDepth 100000 in
theorem ab_cwl7 : (List.range' 420 60).map (ab_gwI 246) = (List.range' 420 60).map (ab_ewI 246) := rfl
end
section
theorem ab_ckl8 : (List.range' 480 60).all (fun i => ab_ck 246 i && ab_ckw 246 i) = true := by decide +kernel
set_option maxRecDepth 100000 in
theorem ab_cwl8 : (List.range' 480 60).map (ab_gwI 246) = (List.range' 480 60).map (ab_ewI 246) := rfl
theorem ab_ckl9 : (List.range' 540 60).all (fun i => ab_ck 246 i && ab_ckw 246 i) = true := by decide +kernel
set_option maxRecDepth 100000 in
theorem ab_cwl9 : (List.range' 540 60).map (ab_gwI 246) = (List.range' 540 60).map (ab_ewI 246) := rfl
theorem ab_ckl10 : (List.range' 600 60).all (fun i => ab_ck 246 i && ab_ckw 246 i) = true := by decide +kernel
set_option maxRecDepth 100000 in
theorem ab_cwl10 : (List.range' 600 60).map (ab_gwI 246) = (List.range' 600 60).map (ab_ewI 246) := rfl
theorem ab_ckl11 : (List.range' 660 60).all (fun i => ab_ck 246 i && ab_ckw 246 i) = true := by decide +kernel
set_option maxRecDepth 100000 in
theorem ab_cwl11 : (List.range' 660 60).map (ab_gwI 246) = (List.range' 660 60).map (ab_ewI 246) := rfl
theorem ab_ckl12 : (List.range' 720 60).all (fun i => ab_ck 246 i && ab_ckw 246 i) = true := by decide +kernel
set_option maxRecDepth 100000 in
theorem ab_cwl12 : (List.range' 720 60).map (ab_gwI 246) = (List.range' 720 60).map (ab_ewI 246) := rfl
theorem ab_ckl13 : (List.range' 780 60).all (fun i => ab_ck 246 i && ab_ckw 246 i) = true := by decide +kernel
set_option maxRecDepth 100000 in
theorem ab_cwl13 : (List.range' 780 60).map (ab_gwI 246) = (List.range' 780 60).map (ab_ewI 246) := rfl
theorem ab_ckl14 : (List.range' 840 60).all (fun i => ab_ck 246 i && ab_ckw 246 i) = true := by decide +kernel
set_option maxRecDepth 100000 in
theorem ab_cwl14 : (List.range' 840 60).map (ab_gwI 246) = (List.range' 840 60).map (ab_ewI 246) := rfl
theorem ab_ckl15 : (List.range' 900 43).all (fun i => ab_ck 246 i && ab_ckw 246 i) = true := by decide +kernel
set_option maxRecDepth 100000 in
theorem ab_cwl15 : (List.range' 900 43).map (ab_gwI 246) = (List.range' 900 43).map (ab_ewI 246) := rfl
end
section
theorem ab_mks : (List.range 245).all ab_mk = true := by decide +kernel
theorem ab_mkg : (List.range 245).all (fun k => (ab_mw k).all fun q => goodWord q.2) = true := by decide +kernel
set_option maxRecDepth 100000 in
theorem ab_mcs0 : (List.range' 0 40).map (fun k => (ab_mw k).map fun q => ab_gw q.1) = (List.range' 0 40).map (fun k => (ab_mw k).map fun q => some q.2) := rfl
set_option maxRecDepth 100000 in
theorem ab_mcs1 : (List.range' 40 40).map (fun k => (ab_mw k).map fun q => ab_gw q.1) = (List.range' 40 40).map (fun k => (ab_mw k).map fun q => some q.2) := rfl
set_option maxRecDepth 100000 in
theorem ab_mcs2 : (List.range' 80 40).map (fun k => (ab_mw k).map fun q => ab_gw q.1) = (List.range' 80 40).map (fun k => (ab_mw k).map fun q => some q.2) := rfl
set_option maxRecDepth 100000 in
theorem ab_mcs3 : (List.range' 120 40).map (fun k => (ab_mw k).map fun q => ab_gw q.1) = (List.range' 120 40).map (fun k => (ab_mw k).map fun q => some q.2) := rfl
set_option maxRecDepth 100000 in
theorem ab_mcs4 : (List.range' 160 40).map (fun k => (ab_mw k).map fun q => ab_gw q.1) = (List.range' 160 40).map (fun k => (ab_mw k).map fun q => some q.2) := rfl
set_option maxRecDepth 100000 in
theorem ab_mcs5 : (List.range' 200 40).map (fun k => (ab_mw k).map fun q => ab_gw q.1) = (List.range' 200 40).map (fun k => (ab_mw k).map fun q => some q.2) := rfl
set_option maxRecDepth 100000 in
theorem ab_mcs6 : (List.range' 240 5).map (fun k => (ab_mw k).map fun q => ab_gw q.1) = (List.range' 240 5).map (fun k => (ab_mw k).map fun q => some q.2) := rfl
set_option maxRecDepth 100000 in
theorem ab_mss : (List.range' 0 245).map ab_ms = (List.range' 0 245).map ab_ms2 := rfl
theorem ab_nth_lt {α : Type} : ∀ {l : List α} {i : Nat} {a : α}, ab_nth l i = some a → i < l.length := by
  intro l
  induction l with
  | nil => intro i a h; simp [ab_nth] at h
  | cons x t ih =>
    intro i a h
    cases i with
    | zero => simp
    | succ i => exact Nat.succ_lt_succ (ih h)
theorem ab_rg {p : Nat → Bool} {a n k : Nat} (h : (List.range' a n).all p = true) (h1 : a ≤ k) (h2 : k < a + n) : p k = true :=
  List.all_eq_true.mp h k (List.mem_range'_1.mpr ⟨h1, h2⟩)
theorem ab_rgm {α : Type} {p q : Nat → α} {a n k : Nat} (h : (List.range' a n).map p = (List.range' a n).map q) (h1 : a ≤ k) (h2 : k < a + n) : p k = q k := by
  have h3 := List.map_inj_left.mp h
  exact h3 k (List.mem_range'_1.mpr ⟨h1, h2⟩)
theorem ab_k247 {k i : Nat} {o : ab_O} (hn : ab_nth (ab_cod k) i = some o) : k < 247 := by
  rcases Nat.lt_or_ge k 247 with h | h
  · exact h
  · have : ab_cod k = [] := by
      unfold ab_cod
      cases h2 : ab_nth ab_codL k with
      | none => rfl
      | some c =>
        have h3 : ab_codL.length = 247 := by decide +kernel
        have h4 := ab_nth_lt h2
        rw [h3] at h4
        exact absurd h4 (by omega)
    rw [this] at hn; simp [ab_nth] at hn
theorem ab_ck_ok2 {k i : Nat} {o : ab_O} (hn : ab_nth (ab_cod k) i = some o) : (ab_ck k i && ab_ckw k i) = true ∧ ab_gwI k i = ab_ewI k i := by
  have hi := ab_nth_lt hn
  have hk := ab_k247 hn
  have g : ∀ {a n : Nat}, (List.range' a n).all (fun k => (List.range (ab_cod k).length).all (fun i => ab_ck k i && ab_ckw k i)) = true → (List.range' a n).map ab_gwM = (List.range' a n).map ab_ewM → a ≤ k → k < a + n → (ab_ck k i && ab_ckw k i) = true ∧ ab_gwI k i = ab_ewI k i := fun h h3 h1 h2 => ⟨List.all_eq_true.mp (ab_rg h h1 h2) i (List.mem_range.mpr hi), List.map_inj_left.mp (ab_rgm h3 h1 h2) i (List.mem_range.mpr hi)⟩
  rcases Nat.lt_or_ge k 7 with h0 | h0
  · exact g ab_ckg0 ab_cwg0 (by omega) (by omega)
  rcases Nat.lt_or_ge k 16 with h1 | h1
  · exact g ab_ckg1 ab_cwg1 (by omega) (by omega)
  rcases Nat.lt_or_ge k 23 with h2 | h2
  · exact g ab_ckg2 ab_cwg2 (by omega) (by omega)
  rcases Nat.lt_or_ge k 30 with h3 | h3
  · exact g ab_ckg3 ab_cwg3 (by omega) (by omega)
  rcases Nat.lt_or_ge k 37 with h4 | h4
  · exact g ab_ckg4 ab_cwg4 (by omega) (by omega)
  rcases Nat.lt_or_ge k 51 with h5 | h5
  · exact g ab_ckg5 ab_cwg5 (by omega) (by omega)
  rcases Nat.lt_or_ge k 59 with h6 | h6
  · exact g ab_ckg6 ab_cwg6 (by omega) (by omega)
  rcases Nat.lt_or_ge k 66 with h7 | h7
  · exact g ab_ckg7 ab_cwg7 (by omega) (by omega)
  rcases Nat.lt_or_ge k 78 with h8 | h8
  · exact g ab_ckg8 ab_cwg8 (by omega) (by omega)
  rcases Nat.lt_or_ge k 83 with h9 | h9
  · exact g ab_ckg9 ab_cwg9 (by omega) (by omega)
  rcases Nat.lt_or_ge k 84 with h10 | h10
  · exact g ab_ckg10 ab_cwg10 (by omega) (by omega)
  rcases Nat.lt_or_ge k 88 with h11 | h11
  · exact g ab_ckg11 ab_cwg11 (by omega) (by omega)
  rcases Nat.lt_or_ge k 96 with h12 | h12
  · exact g ab_ckg12 ab_cwg12 (by omega) (by omega)
  rcases Nat.lt_or_ge k 106 with h13 | h13
  · exact g ab_ckg13 ab_cwg13 (by omega) (by omega)
  rcases Nat.lt_or_ge k 110 with h14 | h14
  · exact g ab_ckg14 ab_cwg14 (by omega) (by omega)
  rcases Nat.lt_or_ge k 113 with h15 | h15
  · exact g ab_ckg15 ab_cwg15 (by omega) (by omega)
  rcases Nat.lt_or_ge k 116 with h16 | h16
  · exact g ab_ckg16 ab_cwg16 (by omega) (by omega)
  rcases Nat.lt_or_ge k 127 with h17 | h17
  · exact g ab_ckg17 ab_cwg17 (by omega) (by omega)
  rcases Nat.lt_or_ge k 137 with h18 | h18
  · exact g ab_ckg18 ab_cwg18 (by omega) (by omega)
  rcases Nat.lt_or_ge k 144 with h19 | h19
  · exact g ab_ckg19 ab_cwg19 (by omega) (by omega)
  rcases Nat.lt_or_ge k 151 with h20 | h20
  · exact g ab_ckg20 ab_cwg20 (by omega) (by omega)
  rcases Nat.lt_or_ge k 157 with h21 | h21
  · exact g ab_ckg21 ab_cwg21 (by omega) (by omega)
  rcases Nat.lt_or_ge k 163 with h22 | h22
  · exact g ab_ckg22 ab_cwg22 (by omega) (by omega)
  rcases Nat.lt_or_ge k 172 with h23 | h23
  · exact g ab_ckg23 ab_cwg23 (by omega) (by omega)
  rcases Nat.lt_or_ge k 181 with h24 | h24
  · exact g ab_ckg24 ab_cwg24 (by omega) (by omega)
  rcases Nat.lt_or_ge k 188 with h25 | h25
  · exact g ab_ckg25 ab_cwg25 (by omega) (by omega)
  rcases Nat.lt_or_ge k 200 with h26 | h26
  · exact g ab_ckg26 ab_cwg26 (by omega) (by omega)
  rcases Nat.lt_or_ge k 209 with h27 | h27
  · exact g ab_ckg27 ab_cwg27 (by omega) (by omega)
  rcases Nat.lt_or_ge k 213 with h28 | h28
  · exact g ab_ckg28 ab_cwg28 (by omega) (by omega)
  rcases Nat.lt_or_ge k 225 with h29 | h29
  · exact g ab_ckg29 ab_cwg29 (by omega) (by omega)
  rcases Nat.lt_or_ge k 236 with h30 | h30
  · exact g ab_ckg30 ab_cwg30 (by omega) (by omega)
  rcases Nat.lt_or_ge k 241 with h31 | h31
  · exact g ab_ckg31 ab_cwg31 (by omega) (by omega)
  rcases Nat.lt_or_ge k 246 with h32 | h32
  · exact g ab_ckg32 ab_cwg32 (by omega) (by omega)
  obtain rfl : k = 246 := by omega
  have hl9 : (ab_cod 246).length = 943 := by decide +kernel
  rw [hl9] at hi
  rcases Nat.lt_or_ge i 60 with h100 | h100
  · exact ⟨ab_rg ab_ckl0 (by omega) (by omega), ab_rgm ab_cwl0 (by omega) (by omega)⟩
  rcases Nat.lt_or_ge i 120 with h101 | h101
  · exact ⟨ab_rg ab_ckl1 (by omega) (by omega), ab_rgm ab_cwl1 (by omega) (by omega)⟩
  rcases Nat.lt_or_ge i 180 with h102 | h102
  · exact ⟨ab_rg ab_ckl2 (by omega) (by omega), ab_rgm ab_cwl2 (by omega) (by omega)⟩
  rcases Nat.lt_or_ge i 240 with h103 | h103
  · exact ⟨ab_rg ab_ckl3 (by omega) (by omega), ab_rgm ab_cwl3 (by omega) (by omega)⟩
  rcases Nat.lt_or_ge i 300 with h104 | h104
  · exact ⟨ab_rg ab_ckl4 (by omega) (by omega), ab_rgm ab_cwl4 (by omega) (by omega)⟩
  rcases Nat.lt_or_ge i 360 with h105 | h105
  · exact ⟨ab_rg ab_ckl5 (by omega) (by omega), ab_rgm ab_cwl5 (by omega) (by omega)⟩
  rcases Nat.lt_or_ge i 420 with h106 | h106
  · exact ⟨ab_rg ab_ckl6 (by omega) (by omega), ab_rgm ab_cwl6 (by omega) (by omega)⟩
  rcases Nat.lt_or_ge i 480 with h107 | h107
  · exact ⟨ab_rg ab_ckl7 (by omega) (by omega), ab_rgm ab_cwl7 (by omega) (by omega)⟩
  rcases Nat.lt_or_ge i 540 with h108 | h108
  · exact ⟨ab_rg ab_ckl8 (by omega) (by omega), ab_rgm ab_cwl8 (by omega) (by omega)⟩
  rcases Nat.lt_or_ge i 600 with h109 | h109
  · exact ⟨ab_rg ab_ckl9 (by omega) (by omega), ab_rgm ab_cwl9 (by omega) (by omega)⟩
  rcases Nat.lt_or_ge i 660 with h110 | h110
  · exact ⟨ab_rg ab_ckl10 (by omega) (by omega), ab_rgm ab_cwl10 (by omega) (by omega)⟩
  rcases Nat.lt_or_ge i 720 with h111 | h111
  · exact ⟨ab_rg ab_ckl11 (by omega) (by omega), ab_rgm ab_cwl11 (by omega) (by omega)⟩
  rcases Nat.lt_or_ge i 780 with h112 | h112
  · exact ⟨ab_rg ab_ckl12 (by omega) (by omega), ab_rgm ab_cwl12 (by omega) (by omega)⟩
  rcases Nat.lt_or_ge i 840 with h113 | h113
  · exact ⟨ab_rg ab_ckl13 (by omega) (by omega), ab_rgm ab_cwl13 (by omega) (by omega)⟩
  rcases Nat.lt_or_ge i 900 with h114 | h114
  · exact ⟨ab_rg ab_ckl14 (by omega) (by omega), ab_rgm ab_cwl14 (by omega) (by omega)⟩
  rcases Nat.lt_or_ge i 943 with h115 | h115
  · exact ⟨ab_rg ab_ckl15 (by omega) (by omega), ab_rgm ab_cwl15 (by omega) (by omega)⟩
  exact absurd hi (by omega)
theorem ab_nw_ok {k i : Nat} {o : ab_O} (hn : ab_nth (ab_cod k) i = some o) {q : Nat × Cond} (hq : q ∈ ab_nw k i o) : (goodWord q.2 = true ∧ q.2 ∈ ab_TB) ∨ (ab_isN q.2 = true ∧ q.2 ∈ ab_NW) := by
  obtain ⟨h1, h2⟩ := ab_ck_ok2 hn
  simp only [Bool.and_eq_true] at h1
  have h3 := h1.2
  unfold ab_ckw at h3
  rw [hn] at h3
  have h4 := List.all_eq_true.mp h3 q hq
  unfold ab_gwI ab_ewI at h2
  rw [hn] at h2
  have h5 : ab_gw q.1 = some q.2 := List.map_inj_left.mp h2 q hq
  simp only [Bool.or_eq_true] at h4
  rcases h4 with h4 | h4
  · exact Or.inl ⟨h4, ab_in_TB h5 h4⟩
  · exact Or.inr ⟨h4, ab_in_NW h5 h4⟩
theorem ab_mw_ok {k : Nat} (hk : k < 245) {q : Nat × Cond} (hq : q ∈ ab_mw k) : goodWord q.2 = true ∧ q.2 ∈ ab_TB := by
  have h1 := List.all_eq_true.mp (List.all_eq_true.mp ab_mkg k (List.mem_range.mpr hk)) q hq
  have h2 : (ab_mw k).map (fun q => ab_gw q.1) = (ab_mw k).map (fun q => some q.2) := by
    rcases Nat.lt_or_ge k 40 with h0 | h0
    · exact ab_rgm (p := fun k => (ab_mw k).map fun q => ab_gw q.1) (q := fun k => (ab_mw k).map fun q => some q.2) ab_mcs0 (by omega) (by omega)
    rcases Nat.lt_or_ge k 80 with h40 | h40
    · exact ab_rgm (p := fun k => (ab_mw k).map fun q => ab_gw q.1) (q := fun k => (ab_mw k).map fun q => some q.2) ab_mcs1 (by omega) (by omega)
    rcases Nat.lt_or_ge k 120 with h80 | h80
    · exact ab_rgm (p := fun k => (ab_mw k).map fun q => ab_gw q.1) (q := fun k => (ab_mw k).map fun q => some q.2) ab_mcs2 (by omega) (by omega)
    rcases Nat.lt_or_ge k 160 with h120 | h120
    · exact ab_rgm (p := fun k => (ab_mw k).map fun q => ab_gw q.1) (q := fun k => (ab_mw k).map fun q => some q.2) ab_mcs3 (by omega) (by omega)
    rcases Nat.lt_or_ge k 200 with h160 | h160
    · exact ab_rgm (p := fun k => (ab_mw k).map fun q => ab_gw q.1) (q := fun k => (ab_mw k).map fun q => some q.2) ab_mcs4 (by omega) (by omega)
    rcases Nat.lt_or_ge k 240 with h200 | h200
    · exact ab_rgm (p := fun k => (ab_mw k).map fun q => ab_gw q.1) (q := fun k => (ab_mw k).map fun q => some q.2) ab_mcs5 (by omega) (by omega)
    rcases Nat.lt_or_ge k 245 with h240 | h240
    · exact ab_rgm (p := fun k => (ab_mw k).map fun q => ab_gw q.1) (q := fun k => (ab_mw k).map fun q => some q.2) ab_mcs6 (by omega) (by omega)
    omega
  have h3 : ab_gw q.1 = some q.2 := List.map_inj_left.mp h2 q hq
  exact ⟨h1, ab_in_TB h3 h1⟩
theorem ab_mk_ok {k : Nat} (h : k < 245) : ab_mk k = true := List.all_eq_true.mp ab_mks k (List.mem_range.mpr h)
theorem ab_ms_ok {k : Nat} (h : k < 245) : ab_ms k = ab_ms2 k := ab_rgm ab_mss (by omega) (by omega)
theorem ab_ck_ok {k i : Nat} {o : ab_O} (hn : ab_nth (ab_cod k) i = some o) : ab_ck k i = true := by
  have h := (ab_ck_ok2 hn).1
  simp only [Bool.and_eq_true] at h
  exact h.1
end
section
/-! THE ABSTRACT MACHINE: its steps and runs. -/
/-- the locals, by their places; a long stands at the first of its two, none at the second -/
abbrev ab_F : Type := List (Option ab_V)
def ab_lk (L : ab_F) (i : Nat) : Option ab_V := match ab_nth L i with
  | some o => o
  | none => none
def ab_set : ab_F → Nat → Option ab_V → ab_F
  | [], _, _ => []
  | _ :: t, 0, v => v :: t
  | a :: t, n + 1, v => a :: ab_set t n v
/-- a store kills a long whose second half it is -/
def ab_kl (L : ab_F) (i : Nat) : ab_F := match i with
  | 0 => L
  | j + 1 => match ab_lk L j with
    | some (1, _) => ab_set L j none
    | _ => L
def ab_s1 (L : ab_F) (i : Nat) (v : ab_V) : ab_F := ab_set (ab_kl L i) i (some v)
def ab_s2 (L : ab_F) (i : Nat) (v : ab_V) : ab_F := ab_set (ab_set (ab_kl L i) i (some v)) (i + 1) none
def ab_and (x y : Int) : Int := (Int32.ofInt x &&& Int32.ofInt y).toInt
def ab_or (x y : Int) : Int := (Int32.ofInt x ||| Int32.ofInt y).toInt
def ab_xor (x y : Int) : Int := (Int32.ofInt x ^^^ Int32.ofInt y).toInt
def ab_shl (x y : Int) : Int := (Int32.ofInt x <<< (Int32.ofInt y &&& 31)).toInt
def ab_shr (x y : Int) : Int := (Int32.ofInt x >>> (Int32.ofInt y &&& 31)).toInt
def ab_ush (x y : Int) : Int := (((Int32.ofInt x).toUInt32 >>> ((Int32.ofInt y).toUInt32 &&& Int32.toUInt32 31)).toInt32).toInt
def ab_rem (x y : Int) : Int := (Int32.ofInt x - Int32.ofInt x / Int32.ofInt y * Int32.ofInt y).toInt
def ab_i2b (x : Int) : Int := ((Int32.ofInt x).toInt8.toInt32).toInt
def ab_lor (x y : Int) : Int := (Int64.ofInt x ||| Int64.ofInt y).toInt
def ab_lsh (x y : Int) : Int := (Int64.ofInt x <<< ((Int32.ofInt y).toInt64 &&& 63)).toInt
def ab_cmp (x y : Int) : Int := if wl x < wl y then -1 else if wl x = wl y then 0 else 1
def ab_max (x y : Int) : Int := if wr x < wr y then y else x
def ab_min (x y : Int) : Int := if wr y < wr x then y else x
/-- what touches locals and stack alone: the next place, the locals, the stack -/
def ab_ps (o : ab_O) (L : ab_F) (st : List ab_V) : Option (Nat × ab_F × List ab_V) :=
  match o.1, st with
  | 2, st => some (o.2.2.2, L, (0, o.2.2.1) :: st)
  | 3, st => match ab_lk L o.2.1 with
    | some (0, x) => some (o.2.2.2, L, (0, x) :: st)
    | _ => none
  | 4, st => match ab_lk L o.2.1 with
    | some (1, x) => some (o.2.2.2, L, (1, x) :: st)
    | _ => none
  | 5, st => match ab_lk L o.2.1 with
    | some (2, x) => some (o.2.2.2, L, (2, x) :: st)
    | _ => none
  | 6, (0, x) :: st => some (o.2.2.2, ab_s1 L o.2.1 (0, x), st)
  | 7, (1, x) :: st => some (o.2.2.2, ab_s2 L o.2.1 (1, x), st)
  | 8, (2, x) :: st => some (o.2.2.2, ab_s1 L o.2.1 (2, x), st)
  | 9, st => match ab_lk L o.2.1 with
    | some (0, x) => some (o.2.2.2, ab_s1 L o.2.1 (0, x + o.2.2.1), st)
    | _ => none
  | 10, (0, y) :: (0, x) :: st => some (o.2.2.2, L, (0, x + y) :: st)
  | 11, (0, y) :: (0, x) :: st => some (o.2.2.2, L, (0, x - y) :: st)
  | 12, (0, y) :: (0, x) :: st => some (o.2.2.2, L, (0, x * y) :: st)
  | 13, (0, y) :: (0, x) :: st => some (o.2.2.2, L, (0, ab_and x y) :: st)
  | 14, (0, y) :: (0, x) :: st => some (o.2.2.2, L, (0, ab_or x y) :: st)
  | 15, (0, y) :: (0, x) :: st => some (o.2.2.2, L, (0, ab_xor x y) :: st)
  | 16, (0, y) :: (0, x) :: st => some (o.2.2.2, L, (0, ab_shl x y) :: st)
  | 17, (0, y) :: (0, x) :: st => some (o.2.2.2, L, (0, ab_shr x y) :: st)
  | 18, (0, y) :: (0, x) :: st => some (o.2.2.2, L, (0, ab_ush x y) :: st)
  | 20, (0, x) :: st => some (o.2.2.2, L, (0, -x) :: st)
  | 21, (0, x) :: st => some (o.2.2.2, L, (0, ab_i2b x) :: st)
  | 22, (0, x) :: st => some (o.2.2.2, L, (1, wr x) :: st)
  | 23, (1, x) :: st => some (o.2.2.2, L, (0, x) :: st)
  | 24, (1, y) :: (1, x) :: st => some (o.2.2.2, L, (1, ab_lor x y) :: st)
  | 25, (0, y) :: (1, x) :: st => some (o.2.2.2, L, (1, ab_lsh x y) :: st)
  | 26, (1, y) :: (1, x) :: st => some (o.2.2.2, L, (0, ab_cmp x y) :: st)
  | 27, st => some (o.2.2.2, L, (1, o.2.2.1) :: st)
  | 28, (0, x) :: st => some (o.2.2.2, L, (0, x) :: (0, x) :: st)
  | 28, (2, x) :: st => some (o.2.2.2, L, (2, x) :: (2, x) :: st)
  | 29, (0, y) :: (2, x) :: st => some (o.2.2.2, L, (0, y) :: (2, x) :: (0, y) :: (2, x) :: st)
  | 30, (0, _) :: st => some (o.2.2.2, L, st)
  | 31, st => some (o.2.1, L, st)
  | 42, st => some (o.2.2.2, L, (2, o.2.2.1) :: st)
  | 62, (2, a) :: st => if a = -3 then some (o.2.2.2, L, (0, 17) :: st) else none
  | 71, st => some (o.2.2.2, L, (2, -22) :: st)
  | _, _ => none

def ab_cnd (b : Int) (x y : Int) : Prop := match b with
  | 0 => wr x = wr y
  | 1 => ¬ wr x = wr y
  | 2 => wr x < wr y
  | 3 => wr y ≤ wr x
  | 4 => wr y < wr x
  | _ => wr x ≤ wr y
def ab_cB (b : Int) (x y : Int) : Bool := match b with
  | 0 => decide (wr x = wr y)
  | 1 => !decide (wr x = wr y)
  | 2 => decide (wr x < wr y)
  | 3 => decide (wr y ≤ wr x)
  | 4 => decide (wr y < wr x)
  | _ => decide (wr x ≤ wr y)
def ab_ts (t : Nat) (x : Int) : Nat := match ab_nth ab_tsL t with
  | some q => if wr x < q.1 then q.2.1 else (ab_nth q.2.2 (wr x - q.1).toNat).getD q.2.1
  | none => 0
def ab_new (g : ab_H) (K v : Int) : ab_H := fun a k => if a = K then v else g a k
def ab_cpy (g : ab_H) (s sp d dp n : Int) : ab_H := fun a k => if a = d ∧ dp ≤ k ∧ k < dp + n then g s (sp + (k - dp)) else g a k
def ab_cat : List ab_V → Nat
  | [] => 0
  | v :: t => cond (Nat.beq v.1 1) 2 1 + ab_cat t
/-- a field of a word of the language -/
def ab_wv (f : Nat) (a : Int) : ab_V := match f with
  | 1 => (1, ((ab_nth ab_wt (-5 - a).toNat).getD (0, 0, 0)).1)
  | 2 => (0, ((ab_nth ab_wt (-5 - a).toNat).getD (0, 0, 0)).2.1)
  | _ => (0, ((ab_nth ab_wt (-5 - a).toNat).getD (0, 0, 0)).2.2)
/-- what touches the world: no calls, no ends -/
def ab_ex (o : ab_O) (L : ab_F) (st : List ab_V) (w : ab_W) : Option (Nat × ab_F × List ab_V × ab_W) :=
  match o.1, st with
  | 19, (0, y) :: (0, x) :: st => if wr y = 0 then none else some (o.2.2.2, L, (0, ab_rem x y) :: st, w)
  | 32, (0, x) :: st => some (if ab_cB o.2.2.1 x 0 then o.2.1 else o.2.2.2, L, st, w)
  | 33, (0, y) :: (0, x) :: st => some (if ab_cB o.2.2.1 x y then o.2.1 else o.2.2.2, L, st, w)
  | 34, (0, x) :: st => some (ab_ts o.2.1 x, L, st, w)
  | 35, (2, a) :: st => if (ab_kd a).1 = o.2.2.1 ∧ 0 ≤ a ∧ a < w.1 then some (o.2.2.2, L, (0, w.2.2.1 a o.2.1) :: st, w) else none
  | 37, (2, a) :: st => if ((ab_kd a).1 = o.2.2.1 ∧ 0 ≤ a ∧ a < w.1) ∧ w.2.2.2 a o.2.1 ≠ -1 then some (o.2.2.2, L, (2, w.2.2.2 a o.2.1) :: st, w) else none
  | 38, (0, x) :: (2, a) :: st => if (ab_kd a).1 = o.2.2.1 ∧ 0 ≤ a ∧ a < w.1 then some (o.2.2.2, L, st, (w.1, w.2.1, ab_up w.2.2.1 a o.2.1 x, w.2.2.2)) else none
  | 39, (0, x) :: (2, a) :: st => if ((ab_kd a).1 = o.2.2.1 ∧ 0 ≤ a ∧ a < w.1) ∧ (x = 0 ∨ x = 1) then some (o.2.2.2, L, st, (w.1, w.2.1, ab_up w.2.2.1 a o.2.1 x, w.2.2.2)) else none
  | 40, (2, x) :: (2, a) :: st => if ((ab_kd a).1 = o.2.2.1 ∧ 0 ≤ a ∧ a < w.1) ∧ x ≠ -1 then some (o.2.2.2, L, st, (w.1, w.2.1, w.2.2.1, ab_up w.2.2.2 a o.2.1 x)) else none
  | 41, (2, x) :: (2, a) :: st => if ((ab_kd a).1 = o.2.2.1 ∧ 0 ≤ a ∧ a < w.1) ∧ x ≠ -1 then some (o.2.2.2, L, st, (w.1, w.2.1, w.2.2.1, ab_up w.2.2.2 a o.2.1 x)) else none
  | 43, (0, j) :: (2, a) :: st => if ((ab_kd a).1 = 100 ∧ 0 ≤ a ∧ a < w.1) ∧ 0 ≤ j ∧ j < (ab_kd a).2 then some (o.2.2.2, L, (0, w.2.2.1 a j) :: st, w) else none
  | 44, (0, j) :: (2, a) :: st => if ((ab_kd a).1 = 101 ∧ 0 ≤ a ∧ a < w.1) ∧ 0 ≤ j ∧ j < (ab_kd a).2 then some (o.2.2.2, L, (0, w.2.2.1 a j) :: st, w) else none
  | 45, (0, j) :: (2, a) :: st => if ((ab_kd a).1 = 102 ∧ 0 ≤ a ∧ a < w.1) ∧ 0 ≤ j ∧ j < (ab_kd a).2 then some (o.2.2.2, L, (0, w.2.2.1 a j) :: st, w) else none
  | 46, (0, j) :: (2, a) :: st => if ((ab_kd a).1 = 103 ∧ 0 ≤ a ∧ a < w.1) ∧ 0 ≤ j ∧ j < (ab_kd a).2 then some (o.2.2.2, L, (1, w.2.2.1 a j) :: st, w) else none
  | 47, (0, j) :: (2, a) :: st => if (((ab_kd a).1 = 104 ∧ 0 ≤ a ∧ a < w.1) ∧ 0 ≤ j ∧ j < (ab_kd a).2) ∧ w.2.2.2 a j ≠ -1 then some (o.2.2.2, L, (2, w.2.2.2 a j) :: st, w) else none
  | 48, (0, x) :: (0, j) :: (2, a) :: st => if ((ab_kd a).1 = 100 ∧ 0 ≤ a ∧ a < w.1) ∧ 0 ≤ j ∧ j < (ab_kd a).2 then some (o.2.2.2, L, st, (w.1, w.2.1, ab_up w.2.2.1 a j x, w.2.2.2)) else none
  | 49, (0, x) :: (0, j) :: (2, a) :: st => if ((ab_kd a).1 = 101 ∧ 0 ≤ a ∧ a < w.1) ∧ 0 ≤ j ∧ j < (ab_kd a).2 then some (o.2.2.2, L, st, (w.1, w.2.1, ab_up w.2.2.1 a j (ab_i2b x), w.2.2.2)) else none
  | 50, (0, x) :: (0, j) :: (2, a) :: st => if (((ab_kd a).1 = 102 ∧ 0 ≤ a ∧ a < w.1) ∧ 0 ≤ j ∧ j < (ab_kd a).2) ∧ (x = 0 ∨ x = 1) then some (o.2.2.2, L, st, (w.1, w.2.1, ab_up w.2.2.1 a j x, w.2.2.2)) else none
  | 51, (1, x) :: (0, j) :: (2, a) :: st => if ((ab_kd a).1 = 103 ∧ 0 ≤ a ∧ a < w.1) ∧ 0 ≤ j ∧ j < (ab_kd a).2 then some (o.2.2.2, L, st, (w.1, w.2.1, ab_up w.2.2.1 a j x, w.2.2.2)) else none
  | 52, st => if ab_kd w.1 = ((o.2.1 : Int), (ab_nF o.2.1 : Int)) ∧ 0 ≤ w.1 then some (o.2.2.2, L, (2, w.1) :: st, (w.1 + 1, w.2.1 + ab_nF o.2.1, ab_new w.2.2.1 w.1 0, ab_new w.2.2.2 w.1 (-1))) else none
  | 53, (0, n) :: st => if ab_kd w.1 = (100 + (o.2.1 : Int), n) ∧ 0 ≤ w.1 ∧ 0 ≤ n ∧ n < 100000 then some (o.2.2.2, L, (2, w.1) :: st, (w.1 + 1, w.2.1 + n.toNat, ab_new w.2.2.1 w.1 0, ab_new w.2.2.2 w.1 (-1))) else none
  | 54, (0, n) :: st => if ab_kd w.1 = (104, n) ∧ 0 ≤ w.1 ∧ 0 ≤ n ∧ n < 100000 then some (o.2.2.2, L, (2, w.1) :: st, (w.1 + 1, w.2.1 + n.toNat, ab_new w.2.2.1 w.1 0, ab_new w.2.2.2 w.1 (-1))) else none
  | 55, (0, y) :: (0, x) :: st => if ab_cat st ≤ 8 then some (o.2.2.2, L, (0, ab_max x y) :: st, w) else none
  | 56, (0, y) :: (0, x) :: st => if ab_cat st ≤ 8 then some (o.2.2.2, L, (0, ab_min x y) :: st, w) else none
  | 57, (0, n) :: (0, dp) :: (2, d) :: (0, sp) :: (2, s) :: st => if (((ab_kd s).1 = 100 ∧ 0 ≤ s ∧ s < w.1) ∧ ((ab_kd d).1 = 100 ∧ 0 ≤ d ∧ d < w.1)) ∧ ab_cat st ≤ 8 ∧ s ≠ d ∧ 186 ≤ w.1 ∧ 0 ≤ n ∧ 0 ≤ sp ∧ 0 ≤ dp ∧ sp + n ≤ (ab_kd s).2 ∧ dp + n ≤ (ab_kd d).2 then some (o.2.2.2, L, st, (w.1, w.2.1, ab_cpy w.2.2.1 s sp d dp n, w.2.2.2)) else none
  | 58, (2, a) :: st => if ab_cat st ≤ 8 then some (o.2.2.2, L, st, w) else none
  | 60, (2, x) :: (0, j) :: (2, a) :: st => if (((ab_kd a).1 = 104 ∧ 0 ≤ a ∧ a < w.1) ∧ 0 ≤ j ∧ j < (ab_kd a).2) ∧ ((ab_kd x).1 = 5 ∧ 0 ≤ x ∧ x < w.1) then some (o.2.2.2, L, st, (w.1, w.2.1, w.2.2.1, ab_up w.2.2.2 a j x)) else none
  | 61, (2, a) :: st => if (ab_kd a).1 = 100 + (o.2.1 : Int) ∧ 0 ≤ a ∧ a < w.1 then some (o.2.2.2, L, (0, (ab_kd a).2) :: st, w) else none
  | 63, (0, j) :: (2, a) :: st => if a = -3 ∧ 0 ≤ j ∧ j < 17 then some (o.2.2.2, L, (2, -5 - j) :: st, w) else none
  | 64, (0, j) :: (2, a) :: st => if a = -4 ∧ 0 ≤ j ∧ j < 17 then some (o.2.2.2, L, (0, (ab_nth ab_swm j.toNat).getD 0) :: st, w) else none
  | 65, (2, a) :: st => if a ≤ -5 ∧ -21 ≤ a then some (o.2.2.2, L, ab_wv o.2.1 a :: st, w) else none
  | 66, (2, a) :: st => if ab_cat st ≤ 8 ∧ a ≤ -5 ∧ -21 ≤ a then some (o.2.2.2, L, (0, -5 - a) :: st, w) else none
  | 67, (0, j) :: (2, a) :: st => if a = -2 ∧ 0 ≤ j ∧ j < w.2.2.2 (-2) (-1) then some (o.2.2.2, L, (0, w.2.2.1 (-2) j) :: st, w) else none
  | 68, (2, a) :: st => if a = -2 then some (o.2.2.2, L, (0, w.2.2.2 (-2) (-1)) :: st, w) else none
  | 69, (2, a) :: st => if ab_cat st ≤ 8 ∧ a = -22 then some (o.2.2.2, L, (0, 86) :: st, w) else none
  | 70, (0, j) :: (2, a) :: st => if ab_cat st ≤ 8 ∧ a = -22 ∧ 0 ≤ j ∧ j < 86 then some (o.2.2.2, L, (0, (ab_nth ab_str j.toNat).getD 0) :: st, w) else none
  | _, st => match ab_ps o L st with
    | some q => some (q.1, q.2.1, q.2.2, w)
    | none => none
/-- the locals of a method's entry -/
def ab_e0 : List ab_V → ab_F
  | [] => []
  | v :: t => cond (Nat.beq v.1 1) (some v :: none :: ab_e0 t) (some v :: ab_e0 t)
def ab_pad : Nat → ab_F → ab_F
  | 0, L => L
  | n + 1, [] => none :: ab_pad n []
  | n + 1, a :: t => a :: ab_pad n t
def ab_en (k : Nat) (av : List ab_V) : ab_F := ab_pad (ab_mxl k) (ab_e0 av)
/-- the receiver of a call is an object of the method's class -/
def ab_rv (k : Nat) (args : List ab_V) (K : Int) : Prop := ab_rcv k = -1 ∨ ∃ a t, args = (2, a) :: t ∧ ab_OB K a (ab_rcv k)
def ab_rvB (k : Nat) (args : List ab_V) (K : Int) : Bool := decide (ab_rcv k = -1) || match args with
  | (2, a) :: _ => decide ((ab_kd a).1 = ab_rcv k ∧ 0 ≤ a ∧ a < K)
  | _ => false
def ab_okc (k k' n : Nat) (rest : List ab_V) (st : List ab_V) : Bool := Nat.blt k' 245 && Nat.ble (ab_cat (st.take n)) (ab_mxl k') && Nat.blt (ab_dep k') (ab_dep k) && Nat.ble (ab_cat rest) 8 && Nat.ble n st.length
/-- a method's end: what is returned; behind 72 what is thrown, by its number -/
def ab_rt (k i : Nat) (st : List ab_V) : Option (List ab_V) := match ab_nth (ab_cod k) i with
  | some o => match o.1, o.2.1, st with
    | 0, 0, [] => some []
    | 0, 1, [(0, x)] => some [(0, x)]
    | 0, 2, [(0, x)] => if x = 0 ∨ x = 1 then some [(0, x)] else none
    | 72, c, [] => some [(9, c)]
    | _, _, _ => none
  | none => none
def ab_nt : List ab_V → Bool
  | [] => true
  | [v] => Nat.blt v.1 9
  | _ => false
/-- a step within a frame; a call is a step, done by rn -/
def ab_sp (rn : Nat → ab_F → ab_W → Option (List ab_V × ab_W)) (k i : Nat) (L : ab_F) (st : List ab_V) (w : ab_W) : Option (Nat × ab_F × List ab_V × ab_W) :=
  match ab_nth (ab_cod k) i with
  | none => none
  | some o => match o.1 with
    | 1 =>
      if ab_okc k o.2.1 o.2.2.1.toNat (st.drop o.2.2.1.toNat) st && ab_rvB o.2.1 (st.take o.2.2.1.toNat).reverse w.1 then
        match rn o.2.1 (ab_en o.2.1 (st.take o.2.2.1.toNat).reverse) w with
        | none => none
        | some q => if ab_nt q.1 then some (o.2.2.2, L, q.1 ++ st.drop o.2.2.1.toNat, q.2) else none
      else none
    | _ => ab_ex o L st w
/-- the run of a method's code from a place on, calls and all: what is returned, the world then -/
def ab_run : Nat → Nat → Nat → ab_F → List ab_V → ab_W → Option (List ab_V × ab_W)
  | 0, _, _, _, _, _ => none
  | n + 1, k, i, L, st, w =>
    match ab_rt k i st with
    | some v => some (v, w)
    | none => match ab_sp (fun k' L' w' => ab_run n k' 0 L' [] w') k i L st w with
      | none => none
      | some q => ab_run n k q.1 q.2.1 q.2.2.1 q.2.2.2
/-- from that place on the method ends, with what satisfies Q -/
def ab_Rn (k i : Nat) (L : ab_F) (st : List ab_V) (w : ab_W) (Q : List ab_V → ab_W → Prop) : Prop := ∃ n v w', ab_run n k i L st w = some (v, w') ∧ Q v w'
/-- so many steps within a frame -/
def ab_it (n : Nat) (k : Nat) : Nat → (Nat × ab_F × List ab_V × ab_W) → Option (Nat × ab_F × List ab_V × ab_W)
  | 0, q => some q
  | t + 1, q => match ab_sp (fun k' L' w' => ab_run n k' 0 L' [] w') k q.1 q.2.1 q.2.2.1 q.2.2.2 with
    | none => none
    | some q' => ab_it n k t q'
end
section
/-! THE ABSTRACT MACHINE IS SOUND, part 2: numbers; the picture of the world; the steps that touch locals and stack alone. -/
theorem ab_blt {a b : Nat} (h : Nat.blt a b = true) : a < b := Nat.le_of_ble_eq_true h
theorem ab_i32 (x : Int) : (Int32.ofInt x).toInt = wr x := by
  rw [Int32.toInt_ofInt]
  unfold wr Int.bmod
  simp only [Int32.size]
  omega
theorem ab_i64 (x : Int) : (Int64.ofInt x).toInt = wl x := by
  rw [Int64.toInt_ofInt]
  unfold wl Int.bmod
  simp only [Int64.size]
  omega
theorem wr_of {x : Int} (h : -2147483648 ≤ x) (h2 : x < 2147483648) : wr x = x := by unfold wr; omega
theorem wr_in (x : Int) : -2147483648 ≤ wr x ∧ wr x < 2147483648 := by unfold wr; omega
theorem ab_ofwr (x : Int) : Int32.ofInt (wr x) = Int32.ofInt x := by rw [← ab_i32, Int32.ofInt_toInt]
theorem ab_ofwl (x : Int) : Int64.ofInt (wl x) = Int64.ofInt x := by rw [← ab_i64, Int64.ofInt_toInt]
theorem ab_lt (x y : Int) : Int32.ofInt x < Int32.ofInt y ↔ wr x < wr y := by rw [Int32.lt_iff_toInt_lt, ab_i32, ab_i32]
theorem ab_le (x y : Int) : Int32.ofInt x ≤ Int32.ofInt y ↔ wr x ≤ wr y := by rw [Int32.le_iff_toInt_le, ab_i32, ab_i32]
theorem ab_eq (x y : Int) : Int32.ofInt x = Int32.ofInt y ↔ wr x = wr y := by rw [← Int32.toInt_inj, ab_i32, ab_i32]
theorem ab_ix {j n : Int} (h0 : 0 ≤ j) (h1 : j < n) (hn : n < 1000000) : (Int32.ofInt j).toNatClampNeg = j.toNat ∧ vp_in (Int32.ofInt j) n.toNat := by
  have h2 : (Int32.ofInt j).toInt = j := by rw [ab_i32, wr_of (by omega) (by omega)]
  refine ⟨?_, ?_⟩
  · show (Int32.ofInt j).toInt.toNat = j.toNat
    rw [h2]
  · rw [vp_in_iff, h2]
    omega
/-- addresses: what the law's run makes lies behind bnd, in the order of its making; what was there before has a number below 0 -/
def ab_ad (bnd : Nat) (aS : Int → Nat) (a : Int) : Nat := match a with
  | .ofNat n => bnd + n
  | .negSucc n => aS (.negSucc n)
theorem ab_ad_nn {bnd : Nat} {aS : Int → Nat} {a : Int} (h : 0 ≤ a) : ab_ad bnd aS a = bnd + a.toNat := by
  cases a with
  | ofNat n => rfl
  | negSucc n => exact absurd h (by omega)
theorem ab_ad_neg {bnd : Nat} {aS : Int → Nat} {a : Int} (h : a < 0) : ab_ad bnd aS a = aS a := by
  cases a with
  | ofNat n => exact absurd h (by have := Int.natCast_nonneg n; simp only [Int.ofNat_eq_natCast]; omega)
  | negSucc n => rfl
def ab_cv (ad : Int → Nat) (v : ab_V) : Value := match v.1 with
  | 0 => .int (Int32.ofInt v.2)
  | 1 => .long (Int64.ofInt v.2)
  | _ => .ref (ad v.2)
def ab_fv (ad : Int → Nat) (t : Nat) (x y : Int) : Value := match t with
  | 1 => .long (Int64.ofInt x)
  | 2 => if y = -1 then .null else .ref (ad y)
  | _ => .int (Int32.ofInt x)
def ab_fs (ad : Int → Nat) (g r : ab_H) (c : Nat) (a : Int) : List Value := (List.range (ab_nF c)).map fun k => ab_fv ad (ab_fld c k).2.2.2 (g a k) (r a k)
def ab_ce (ad : Int → Nat) (cA : Nat → ClassId) (g r : ab_H) (a : Int) : va_E :=
  if (ab_kd a).1 < 100 then .inr ((ab_kd a).1.toNat, ab_fs ad g r (ab_kd a).1.toNat a)
  else if (ab_kd a).1 = 103 then .inl (cA 3, (ab_kd a).2.toNat, .inr (.inl fun j => Int64.ofInt (g a j)))
  else if (ab_kd a).1 = 104 then .inl (cA 4, (ab_kd a).2.toNat, .inr (.inr (.inr (.inr fun j => if r a j = -1 then none else some (ad (r a j))))))
  else .inl (cA ((ab_kd a).1 - 100).toNat, (ab_kd a).2.toNat, .inl fun j => Int32.ofInt (g a j))
def ab_tys (cA : Nat → ClassId) : List (ClassId × FieldType) := [(cA 0, .int), (cA 1, .byte), (cA 2, .boolean), (cA 3, .long), (cA 4, .object "EventLedger$Mark")]
/-- the heap H holds the world w -/
def ab_HW (D : va_G) (cA : Nat → ClassId) (bnd : Nat) (aS : Int → Nat) (SL : Nat) (xs : Nat → Int32) (w : ab_W) (H : Heap) : Prop :=
  (∀ a : Int, 0 ≤ a → a < w.1 → va_at D ab_clsK (ab_ad bnd aS a, ab_ce (ab_ad bnd aS) cA w.2.2.1 w.2.2.2 a) H) ∧ (w.1 < 186 → H.size = bnd + w.1.toNat) ∧ bnd ≤ H.size ∧ 0 ≤ w.1 ∧ w.1 ≤ 186 ∧ (∀ j : Nat, j < SL → Int32.ofInt (w.2.2.1 (-2) j) = xs j) ∧ w.2.2.2 (-2) (-1) = SL
/-- what the JDK's own methods read: two statics, the words' text -/
def ab_JF (bnd : Nat) (aS : Int → Nat) (U : State) (H : Heap) : Prop := va_Z "java/lang/String" "COMPACT_STRINGS" "Z" (.int 1) (fun q => bnd ≤ q) U H ∧ va_Z "jdk/internal/util/Preconditions" "SIOOBE_FORMATTER" "Ljava/util/function/BiFunction;" (.ref (aS (-24))) (fun q => bnd ≤ q) U H ∧ vk_S 1 [86] [ab_str.map Int32.ofInt] (fun _ => aS (-22)) (fun _ => aS (-23)) (fun q => bnd ≤ q) U H
theorem ab_JF.moved {bnd : Nat} {aS : Int → Nat} {u U : State} {H : Heap} (hvm : u.vm.Alike U.vm) (h : ab_JF bnd aS u H) : ab_JF bnd aS U H := ⟨h.1.moved hvm, h.2.1.moved hvm, h.2.2.moved hvm⟩
theorem ab_JF.kept {bnd : Nat} {aS : Int → Nat} {U : State} {H H1 : Heap} (h : ab_JF bnd aS U H) (hq : ∀ a : Nat, a < H.size → ¬ bnd ≤ a → H1[a]? = H[a]?) : ab_JF bnd aS U H1 := ⟨h.1.kept hq, h.2.1.kept hq, h.2.2.kept hq⟩
/-- the words' text stands in the pool of the model's class -/
def ab_SR (aS : Int → Nat) (U : State) : Prop := ∃ tx : String, vk_R "EventLedgerModel" 135 tx (aS (-22)) U
theorem ab_SR.same {aS : Int → Nat} {u U : State} (hv : U.vm = u.vm) (h : ab_SR aS u) : ab_SR aS U := by
  obtain ⟨tx, h⟩ := h
  exact ⟨tx, h.same hv⟩
theorem ab_SR.warm {aS : Int → Nat} {s U : State} (hW : s.WarmedH U.vm) (h : ab_SR aS s) : ab_SR aS U := by
  obtain ⟨tx, h⟩ := h
  exact ⟨tx, h.warm hW⟩
/-- what was there before the law began: the cells behind the statics -/
def ab_SF (bnd : Nat) (aS : Int → Nat) (SL : Nat) (xs : Nat → Int32) (U : State) (H : Heap) : Prop :=
  va_Z "EventLedger" "WORDS" "[LEventLedger$Word;" (.ref (aS (-3))) (fun q => bnd ≤ q) U H ∧
  va_Z "EventLedger$1" "$SwitchMap$EventLedger$Word" "[I" (.ref (aS (-4))) (fun q => bnd ≤ q) U H ∧
  va_Z "EventLedger$Word" "ACCOUNT" "LEventLedger$Word;" (.ref (aS (-5))) (fun q => bnd ≤ q) U H ∧
  va_T (.object "EventLedger$Word") (aS (-3)) 17 (fun j => .ref (aS (-5 - j))) (fun q => bnd ≤ q) U H ∧
  va_T .int (aS (-4)) 17 (fun j => .int (Int32.ofInt ((ab_nth ab_swm j).getD 0))) (fun q => bnd ≤ q) U H ∧
  (∀ j : Nat, j < 17 → va_O "EventLedger$Word" (aS (-5 - j)) (fun q => bnd ≤ q) U H ∧
    va_OF "java/lang/Enum" "ordinal" "I" (.int (Int32.ofInt j)) (aS (-5 - j)) (fun q => bnd ≤ q) U H ∧
    va_OF "EventLedger$Word" "code" "J" (.long (Int64.ofInt ((ab_nth ab_wt j).getD (0, 0, 0)).1)) (aS (-5 - j)) (fun q => bnd ≤ q) U H ∧
    va_OF "EventLedger$Word" "kind" "I" (.int (Int32.ofInt ((ab_nth ab_wt j).getD (0, 0, 0)).2.1)) (aS (-5 - j)) (fun q => bnd ≤ q) U H ∧
    va_OF "EventLedger$Word" "op" "I" (.int (Int32.ofInt ((ab_nth ab_wt j).getD (0, 0, 0)).2.2)) (aS (-5 - j)) (fun q => bnd ≤ q) U H) ∧
  (va_X (aS (-2)) SL xs U H ∧ aS (-2) < bnd ∧ ab_JF bnd aS U H)
/-- the machine's own side at a method's entry -/
def ab_Cx (D : va_G) (cA : Nat → ClassId) (bnd : Nat) (aS : Int → Nat) (SL : Nat) (xs : Nat → Int32) (k : Nat) (p : Program) (R : Room) (s : State) (m : MethodId) (args : Array Value) (meth : Method) (c : Code) : Prop :=
  p.tables.exec = Jvm.exec ∧ c.code = ab_bts k ∧ c.maxLocals = ab_mxl k ∧ s.vm.findClass (ab_own k) = some m.cls ∧ (∀ w ∈ ab_TB, w.before args s = true) ∧ ((∀ w ∈ ab_NW, va_Nw w s) ∧ ab_SR aS s) ∧ ((ab_yn k).name = "<init>" → meth.name = "<init>") ∧ bnd ≤ s.heap.size ∧ ab_dep k ≤ R.frames ∧ 38 * ab_dep k + 2 ≤ R.locals ∧ va_K D ab_clsK (ab_tys cA) s ∧ va_AO "EventLedger$Mark" s ∧ ab_SF bnd aS SL xs s s.heap ∧ SL < 1000000
section AbPure
variable {p : Program} {l : Launch} {e : Env} {R : Room} {s : State} {m : MethodId} {args : Array Value} {below : List Frame} {meth : Method} {c : Code} {Q : State → Prop} {D : va_G} {cA : Nat → ClassId} {bnd : Nat} {aS : Int → Nat} {SL : Nat} {xs : Nat → Int32} {K0 : Int} {S0 : Nat} {k : Nat}
/-- the locals as the kit has them -/
def ab_al (ad : Int → Nat) : Nat → ab_F → List (Nat × Value)
  | _, [] => []
  | j, none :: t => ab_al ad (j + 1) t
  | j, some v :: t => (j, ab_cv ad v) :: ab_al ad (j + 1) t
/-- from the place i of the method k, with these locals, this stack, this world, the machine comes to Q -/
def ab_WW (p : Program) (l : Launch) (e : Env) (R : Room) (s : State) (m : MethodId) (args : Array Value) (below : List Frame) (meth : Method) (c : Code) (Q : State → Prop) (D : va_G) (cA : Nat → ClassId) (bnd : Nat) (aS : Int → Nat) (SL : Nat) (xs : Nat → Int32) (K0 : Int) (S0 : Nat) (k : Nat) (i : Nat) (L : ab_F) (st : List ab_V) (w : ab_W) : Prop :=
  ∀ (H : Heap) (locs : List Loc) (ls : Array Slot), ab_HW D cA bnd aS SL xs w H → va_S (fun q => bnd ≤ q) s.heap H locs → lv_has ls (ab_mxl k) (ab_al (ab_ad bnd aS) 0 L) →
    W p l e R s m args below meth c H locs (w.1 - K0).toNat (w.2.1 - S0) Q (F0 m (ab_pc k i) ls (st.map (ab_cv (ab_ad bnd aS))))
theorem ab_al_in {ad : Int → Nat} : ∀ {L : ab_F} {j i : Nat} {v : ab_V}, ab_lk L i = some v → (j + i, ab_cv ad v) ∈ ab_al ad j L := by
  intro L
  induction L with
  | nil => intro j i v h; simp [ab_lk, ab_nth] at h
  | cons q t ih =>
    intro j i v h
    cases i with
    | zero =>
      have h1 : q = some v := h
      subst h1
      exact List.mem_cons_self
    | succ i =>
      have h1 : ab_lk t i = some v := h
      have h2 := ih (j := j + 1) h1
      rw [show j + (i + 1) = j + 1 + i by omega]
      cases q with
      | none => exact h2
      | some u => exact List.mem_cons_of_mem _ h2
theorem ab_al_of {ad : Int → Nat} : ∀ {L : ab_F} {j : Nat} {q : Nat × Value}, q ∈ ab_al ad j L → ∃ (i : Nat) (v : ab_V), q = (j + i, ab_cv ad v) ∧ ab_lk L i = some v := by
  intro L
  induction L with
  | nil => intro j q h; cases h
  | cons a t ih =>
    intro j q h
    cases a with
    | none =>
      obtain ⟨i, v, h1, h2⟩ := ih (j := j + 1) h
      exact ⟨i + 1, v, by rw [h1, show j + 1 + i = j + (i + 1) by omega], h2⟩
    | some u =>
      rcases List.mem_cons.mp h with rfl | h
      · exact ⟨0, u, rfl, rfl⟩
      · obtain ⟨i, v, h1, h2⟩ := ih (j := j + 1) h
        exact ⟨i + 1, v, by rw [h1, show j + 1 + i = j + (i + 1) by omega], h2⟩
theorem ab_loc {ls : Array Slot} {nL : Nat} {L : ab_F} {ad : Int → Nat} (h : lv_has ls nL (ab_al ad 0 L)) {i : Nat} {v : ab_V} (hk : ab_lk L i = some v) : ls[i]? = some (.val (ab_cv ad v)) := by
  have h1 := h.2.2 _ (ab_al_in (ad := ad) (j := 0) hk)
  rw [Nat.zero_add] at h1
  exact h1
theorem ab_lk_set : ∀ {L : ab_F} {i j : Nat} {o : Option ab_V} {v : ab_V}, ab_lk (ab_set L i o) j = some v → (j = i ∧ o = some v) ∨ (j ≠ i ∧ ab_lk L j = some v) := by
  intro L
  induction L with
  | nil => intro i j o v h; simp [ab_set, ab_lk, ab_nth] at h
  | cons a t ih =>
    intro i j o v h
    cases i with
    | zero =>
      cases j with
      | zero => exact Or.inl ⟨rfl, h⟩
      | succ j => exact Or.inr ⟨by omega, h⟩
    | succ i =>
      cases j with
      | zero => exact Or.inr ⟨by omega, h⟩
      | succ j =>
        have h1 : ab_lk (ab_set t i o) j = some v := h
        rcases ih h1 with ⟨h2, h3⟩ | ⟨h2, h3⟩
        · exact Or.inl ⟨by omega, h3⟩
        · exact Or.inr ⟨by omega, h3⟩
theorem ab_lk_kl {L : ab_F} {i j : Nat} {v : ab_V} (h : ab_lk (ab_kl L i) j = some v) : ab_lk L j = some v ∧ (j + 1 = i → v.1 ≠ 1) := by
  unfold ab_kl at h
  cases i with
  | zero => exact ⟨h, fun q => by omega⟩
  | succ n =>
    dsimp only at h
    split at h
    · rcases ab_lk_set h with ⟨-, h2⟩ | ⟨h2, h3⟩
      · cases h2
      · exact ⟨h3, fun q => absurd (by omega) h2⟩
    · rename_i hn
      refine ⟨h, fun q h1 => ?_⟩
      obtain rfl : j = n := by omega
      obtain ⟨t, x⟩ := v
      dsimp only at h1
      subst h1
      exact hn _ h
theorem ab_has_sub {ls : Array Slot} {nL : Nat} {l l' : List (Nat × Value)} (h : lv_has ls nL l) (hs : ∀ q ∈ l', q ∈ l) : lv_has ls nL l' := ⟨h.1, h.2.1, fun q hq => h.2.2 q (hs q hq)⟩
theorem ab_cat_cv (ad : Int → Nat) (v : ab_V) : ((ab_cv ad v).category == 2) = Nat.beq v.1 1 := by
  obtain ⟨t, x⟩ := v
  match t with
  | 0 => rfl
  | 1 => rfl
  | n + 2 => rfl
theorem ab_cat2 (ad : Int → Nat) (v : ab_V) : (ab_cv ad v).category = 2 ↔ v.1 = 1 := by
  obtain ⟨t, x⟩ := v
  match t with
  | 0 => exact ⟨fun h => (by cases h), fun h => (by cases h)⟩
  | 1 => exact ⟨fun _ => rfl, fun _ => rfl⟩
  | n + 2 => exact ⟨fun h => (by cases h), fun h => (by dsimp only at h; omega)⟩
theorem ab_s1_sub {ad : Int → Nat} {L : ab_F} {i : Nat} {v : ab_V} : ∀ q ∈ ab_al ad 0 (ab_s1 L i v), q ∈ (i, ab_cv ad v) :: (ab_al ad 0 L).filter (fun q => !(q.1 == i) && !(q.1 + 1 == i && q.2.category == 2)) := by
  intro q hq
  obtain ⟨j, u, rfl, hj⟩ := ab_al_of hq
  rw [Nat.zero_add]
  rcases ab_lk_set hj with ⟨h1, h2⟩ | ⟨h1, h2⟩
  · cases h2
    rw [h1]
    exact List.mem_cons_self
  · obtain ⟨h3, h4⟩ := ab_lk_kl h2
    refine List.mem_cons_of_mem _ (List.mem_filter.mpr ⟨by have := ab_al_in (ad := ad) (j := 0) h3; rwa [Nat.zero_add] at this, ?_⟩)
    simp only [Bool.and_eq_true, Bool.not_eq_true', beq_eq_false_iff_ne, ne_eq, Bool.and_eq_false_imp, beq_iff_eq]
    exact ⟨h1, fun h5 h6 => h4 h5 ((ab_cat2 ad u).mp h6)⟩
theorem ab_s2_sub {ad : Int → Nat} {L : ab_F} {i : Nat} {v : ab_V} : ∀ q ∈ ab_al ad 0 (ab_s2 L i v), q ∈ (i, ab_cv ad v) :: (ab_al ad 0 L).filter (fun q => !(q.1 == i) && (!(q.1 == i + 1) && !(q.1 + 1 == i && q.2.category == 2))) := by
  intro q hq
  obtain ⟨j, u, rfl, hj⟩ := ab_al_of hq
  rw [Nat.zero_add]
  rcases ab_lk_set hj with ⟨h1, h2⟩ | ⟨h0, h2⟩
  · cases h2
  · rcases ab_lk_set h2 with ⟨h1, h2⟩ | ⟨h1, h2⟩
    · cases h2
      rw [h1]
      exact List.mem_cons_self
    · obtain ⟨h3, h4⟩ := ab_lk_kl h2
      refine List.mem_cons_of_mem _ (List.mem_filter.mpr ⟨by have := ab_al_in (ad := ad) (j := 0) h3; rwa [Nat.zero_add] at this, ?_⟩)
      simp only [Bool.and_eq_true, Bool.not_eq_true', beq_eq_false_iff_ne, ne_eq, Bool.and_eq_false_imp, beq_iff_eq]
      exact ⟨h1, h0, fun h5 h6 => h4 h5 ((ab_cat2 ad u).mp h6)⟩
/-- what the check says of a place -/
theorem ab_dec {i : Nat} {o : ab_O} (h : ab_nth (ab_cod k) i = some o) (hop : o.1 < 72) : ∃ q ∈ ab_alt k i o, decode (ab_bts k) (ab_pc k i) = .ok (q.1, q.2.1) ∧ q.2.2 = true ∧ (ab_jmp o.1 = true ∨ ab_pc k o.2.2.2 = ab_pc k i + q.2.1) := by
  have h1 := ab_ck_ok h
  unfold ab_ck at h1
  rw [h] at h1
  have h2 : Nat.ble 72 o.1 = false := by
    cases hb : Nat.ble 72 o.1 with
    | false => rfl
    | true => exact absurd (Nat.le_of_ble_eq_true hb) (by omega)
  simp only [h2, Bool.false_or, List.any_eq_true] at h1
  obtain ⟨q, hq, h3⟩ := h1
  simp only [Bool.and_eq_true, decide_eq_true_eq, Bool.or_eq_true] at h3
  exact ⟨q, hq, h3.1.1, h3.1.2, h3.2.imp id Nat.eq_of_beq_eq_true⟩
theorem ab_dec1 {i op a nx n : Nat} {b : Int} {I : Instr} {sc : Bool} (h : ab_nth (ab_cod k) i = some (op, a, b, nx)) (hop : op < 72) (hj : ab_jmp op = false) (hal : ab_alt k i (op, a, b, nx) = [(I, n, sc)]) : decode (ab_bts k) (ab_pc k i) = .ok (I, n) ∧ sc = true ∧ ab_pc k nx = ab_pc k i + n := by
  obtain ⟨q, hq, h1, h2, h3⟩ := ab_dec h hop
  rw [hal] at hq
  cases List.mem_singleton.mp hq
  rcases h3 with h3 | h3
  · rw [hj] at h3; cases h3
  · exact ⟨h1, h2, h3⟩

theorem ab_p10 {i a nx : Nat} {b : Int} {L : ab_F} {st : List ab_V} {w : ab_W} {x y : Int} (C : ab_Cx D cA bnd aS SL xs k p R s m args meth c) (ho : ab_nth (ab_cod k) i = some (10, a, b, nx)) (kk : ab_WW p l e R s m args below meth c Q D cA bnd aS SL xs K0 S0 k nx L ((0, x + y) :: st) w) : ab_WW p l e R s m args below meth c Q D cA bnd aS SL xs K0 S0 k i L ((0, y) :: (0, x) :: st) w := by
  intro H locs ls hw hS hl
  obtain ⟨hd, -, hp⟩ := ab_dec1 ho (by decide) rfl rfl
  have kk := kk H locs ls hw hS hl
  rw [hp] at kk
  simp only [List.map_cons, ab_cv, Int32.ofInt_add] at kk ⊢
  exact lv_iadd C.1 C.2.1 hd kk
theorem ab_p11 {i a nx : Nat} {b : Int} {L : ab_F} {st : List ab_V} {w : ab_W} {x y : Int} (C : ab_Cx D cA bnd aS SL xs k p R s m args meth c) (ho : ab_nth (ab_cod k) i = some (11, a, b, nx)) (kk : ab_WW p l e R s m args below meth c Q D cA bnd aS SL xs K0 S0 k nx L ((0, x - y) :: st) w) : ab_WW p l e R s m args below meth c Q D cA bnd aS SL xs K0 S0 k i L ((0, y) :: (0, x) :: st) w := by
  intro H locs ls hw hS hl
  obtain ⟨hd, -, hp⟩ := ab_dec1 ho (by decide) rfl rfl
  have kk := kk H locs ls hw hS hl
  rw [hp] at kk
  simp only [List.map_cons, ab_cv, Int32.ofInt_sub] at kk ⊢
  exact lv_isub C.1 C.2.1 hd kk
theorem ab_p12 {i a nx : Nat} {b : Int} {L : ab_F} {st : List ab_V} {w : ab_W} {x y : Int} (C : ab_Cx D cA bnd aS SL xs k p R s m args meth c) (ho : ab_nth (ab_cod k) i = some (12, a, b, nx)) (kk : ab_WW p l e R s m args below meth c Q D cA bnd aS SL xs K0 S0 k nx L ((0, x * y) :: st) w) : ab_WW p l e R s m args below meth c Q D cA bnd aS SL xs K0 S0 k i L ((0, y) :: (0, x) :: st) w := by
  intro H locs ls hw hS hl
  obtain ⟨hd, -, hp⟩ := ab_dec1 ho (by decide) rfl rfl
  have kk := kk H locs ls hw hS hl
  rw [hp] at kk
  simp only [List.map_cons, ab_cv, Int32.ofInt_mul] at kk ⊢
  exact lv_imul C.1 C.2.1 hd kk
theorem ab_p13 {i a nx : Nat} {b : Int} {L : ab_F} {st : List ab_V} {w : ab_W} {x y : Int} (C : ab_Cx D cA bnd aS SL xs k p R s m args meth c) (ho : ab_nth (ab_cod k) i = some (13, a, b, nx)) (kk : ab_WW p l e R s m args below meth c Q D cA bnd aS SL xs K0 S0 k nx L ((0, ab_and x y) :: st) w) : ab_WW p l e R s m args below meth c Q D cA bnd aS SL xs K0 S0 k i L ((0, y) :: (0, x) :: st) w := by
  intro H locs ls hw hS hl
  obtain ⟨hd, -, hp⟩ := ab_dec1 ho (by decide) rfl rfl
  have kk := kk H locs ls hw hS hl
  rw [hp] at kk
  simp only [List.map_cons, ab_cv, ab_and, Int32.ofInt_toInt] at kk ⊢
  exact lv_iand C.1 C.2.1 hd kk
theorem ab_p14 {i a nx : Nat} {b : Int} {L : ab_F} {st : List ab_V} {w : ab_W} {x y : Int} (C : ab_Cx D cA bnd aS SL xs k p R s m args meth c) (ho : ab_nth (ab_cod k) i = some (14, a, b, nx)) (kk : ab_WW p l e R s m args below meth c Q D cA bnd aS SL xs K0 S0 k nx L ((0, ab_or x y) :: st) w) : ab_WW p l e R s m args below meth c Q D cA bnd aS SL xs K0 S0 k i L ((0, y) :: (0, x) :: st) w := by
  intro H locs ls hw hS hl
  obtain ⟨hd, -, hp⟩ := ab_dec1 ho (by decide) rfl rfl
  have kk := kk H locs ls hw hS hl
  rw [hp] at kk
  simp only [List.map_cons, ab_cv, ab_or, Int32.ofInt_toInt] at kk ⊢
  exact lv_ior C.1 C.2.1 hd kk
theorem ab_p15 {i a nx : Nat} {b : Int} {L : ab_F} {st : List ab_V} {w : ab_W} {x y : Int} (C : ab_Cx D cA bnd aS SL xs k p R s m args meth c) (ho : ab_nth (ab_cod k) i = some (15, a, b, nx)) (kk : ab_WW p l e R s m args below meth c Q D cA bnd aS SL xs K0 S0 k nx L ((0, ab_xor x y) :: st) w) : ab_WW p l e R s m args below meth c Q D cA bnd aS SL xs K0 S0 k i L ((0, y) :: (0, x) :: st) w := by
  intro H locs ls hw hS hl
  obtain ⟨hd, -, hp⟩ := ab_dec1 ho (by decide) rfl rfl
  have kk := kk H locs ls hw hS hl
  rw [hp] at kk
  simp only [List.map_cons, ab_cv, ab_xor, Int32.ofInt_toInt] at kk ⊢
  exact lv_ixor C.1 C.2.1 hd kk
theorem ab_p16 {i a nx : Nat} {b : Int} {L : ab_F} {st : List ab_V} {w : ab_W} {x y : Int} (C : ab_Cx D cA bnd aS SL xs k p R s m args meth c) (ho : ab_nth (ab_cod k) i = some (16, a, b, nx)) (kk : ab_WW p l e R s m args below meth c Q D cA bnd aS SL xs K0 S0 k nx L ((0, ab_shl x y) :: st) w) : ab_WW p l e R s m args below meth c Q D cA bnd aS SL xs K0 S0 k i L ((0, y) :: (0, x) :: st) w := by
  intro H locs ls hw hS hl
  obtain ⟨hd, -, hp⟩ := ab_dec1 ho (by decide) rfl rfl
  have kk := kk H locs ls hw hS hl
  rw [hp] at kk
  simp only [List.map_cons, ab_cv, ab_shl, Int32.ofInt_toInt] at kk ⊢
  exact lv_ishl C.1 C.2.1 hd kk
theorem ab_p17 {i a nx : Nat} {b : Int} {L : ab_F} {st : List ab_V} {w : ab_W} {x y : Int} (C : ab_Cx D cA bnd aS SL xs k p R s m args meth c) (ho : ab_nth (ab_cod k) i = some (17, a, b, nx)) (kk : ab_WW p l e R s m args below meth c Q D cA bnd aS SL xs K0 S0 k nx L ((0, ab_shr x y) :: st) w) : ab_WW p l e R s m args below meth c Q D cA bnd aS SL xs K0 S0 k i L ((0, y) :: (0, x) :: st) w := by
  intro H locs ls hw hS hl
  obtain ⟨hd, -, hp⟩ := ab_dec1 ho (by decide) rfl rfl
  have kk := kk H locs ls hw hS hl
  rw [hp] at kk
  simp only [List.map_cons, ab_cv, ab_shr, Int32.ofInt_toInt] at kk ⊢
  exact lv_ishr C.1 C.2.1 hd kk
theorem ab_p18 {i a nx : Nat} {b : Int} {L : ab_F} {st : List ab_V} {w : ab_W} {x y : Int} (C : ab_Cx D cA bnd aS SL xs k p R s m args meth c) (ho : ab_nth (ab_cod k) i = some (18, a, b, nx)) (kk : ab_WW p l e R s m args below meth c Q D cA bnd aS SL xs K0 S0 k nx L ((0, ab_ush x y) :: st) w) : ab_WW p l e R s m args below meth c Q D cA bnd aS SL xs K0 S0 k i L ((0, y) :: (0, x) :: st) w := by
  intro H locs ls hw hS hl
  obtain ⟨hd, -, hp⟩ := ab_dec1 ho (by decide) rfl rfl
  have kk := kk H locs ls hw hS hl
  rw [hp] at kk
  simp only [List.map_cons, ab_cv, ab_ush, Int32.ofInt_toInt] at kk ⊢
  exact lv_iushr C.1 C.2.1 hd rfl kk
theorem ab_p24 {i a nx : Nat} {b : Int} {L : ab_F} {st : List ab_V} {w : ab_W} {x y : Int} (C : ab_Cx D cA bnd aS SL xs k p R s m args meth c) (ho : ab_nth (ab_cod k) i = some (24, a, b, nx)) (kk : ab_WW p l e R s m args below meth c Q D cA bnd aS SL xs K0 S0 k nx L ((1, ab_lor x y) :: st) w) : ab_WW p l e R s m args below meth c Q D cA bnd aS SL xs K0 S0 k i L ((1, y) :: (1, x) :: st) w := by
  intro H locs ls hw hS hl
  obtain ⟨hd, -, hp⟩ := ab_dec1 ho (by decide) rfl rfl
  have kk := kk H locs ls hw hS hl
  rw [hp] at kk
  simp only [List.map_cons, ab_cv, ab_lor, Int64.ofInt_toInt] at kk ⊢
  exact lv_lor C.1 C.2.1 hd kk
theorem ab_p25 {i a nx : Nat} {b : Int} {L : ab_F} {st : List ab_V} {w : ab_W} {x y : Int} (C : ab_Cx D cA bnd aS SL xs k p R s m args meth c) (ho : ab_nth (ab_cod k) i = some (25, a, b, nx)) (kk : ab_WW p l e R s m args below meth c Q D cA bnd aS SL xs K0 S0 k nx L ((1, ab_lsh x y) :: st) w) : ab_WW p l e R s m args below meth c Q D cA bnd aS SL xs K0 S0 k i L ((0, y) :: (1, x) :: st) w := by
  intro H locs ls hw hS hl
  obtain ⟨hd, -, hp⟩ := ab_dec1 ho (by decide) rfl rfl
  have kk := kk H locs ls hw hS hl
  rw [hp] at kk
  simp only [List.map_cons, ab_cv, ab_lsh, Int64.ofInt_toInt] at kk ⊢
  exact lv_lshl C.1 C.2.1 hd rfl kk
theorem ab_lcmp (x y : Int) : lg_cmp (Int64.ofInt x) (Int64.ofInt y) = Int32.ofInt (ab_cmp x y) := by
  unfold lg_cmp ab_cmp
  have h1 : (Int64.ofInt x < Int64.ofInt y) ↔ wl x < wl y := by rw [Int64.lt_iff_toInt_lt, ab_i64, ab_i64]
  have h2 : (Int64.ofInt x = Int64.ofInt y) ↔ wl x = wl y := by rw [← Int64.toInt_inj, ab_i64, ab_i64]
  have h3 : (Int64.ofInt x > Int64.ofInt y) ↔ wl y < wl x := by rw [gt_iff_lt, Int64.lt_iff_toInt_lt, ab_i64, ab_i64]
  simp only [h2, h3]
  by_cases q1 : wl x < wl y
  · rw [if_neg (by omega), if_neg (by omega), if_pos q1]
    rfl
  · by_cases q2 : wl x = wl y
    · rw [if_neg (by omega), if_pos q2, if_neg q1, if_pos q2]
      rfl
    · rw [if_pos (by omega), if_neg q1, if_neg q2]
      rfl
theorem ab_p26 {i a nx : Nat} {b : Int} {L : ab_F} {st : List ab_V} {w : ab_W} {x y : Int} (C : ab_Cx D cA bnd aS SL xs k p R s m args meth c) (ho : ab_nth (ab_cod k) i = some (26, a, b, nx)) (kk : ab_WW p l e R s m args below meth c Q D cA bnd aS SL xs K0 S0 k nx L ((0, ab_cmp x y) :: st) w) : ab_WW p l e R s m args below meth c Q D cA bnd aS SL xs K0 S0 k i L ((1, y) :: (1, x) :: st) w := by
  intro H locs ls hw hS hl
  obtain ⟨hd, -, hp⟩ := ab_dec1 ho (by decide) rfl rfl
  have kk := kk H locs ls hw hS hl
  rw [hp] at kk
  simp only [List.map_cons, ab_cv, ← ab_lcmp] at kk ⊢
  exact W.lcmp C.1 C.2.1 hd kk
theorem ab_p20 {i a nx : Nat} {b : Int} {L : ab_F} {st : List ab_V} {w : ab_W} {x : Int} (C : ab_Cx D cA bnd aS SL xs k p R s m args meth c) (ho : ab_nth (ab_cod k) i = some (20, a, b, nx)) (kk : ab_WW p l e R s m args below meth c Q D cA bnd aS SL xs K0 S0 k nx L ((0, -x) :: st) w) : ab_WW p l e R s m args below meth c Q D cA bnd aS SL xs K0 S0 k i L ((0, x) :: st) w := by
  intro H locs ls hw hS hl
  obtain ⟨hd, -, hp⟩ := ab_dec1 ho (by decide) rfl rfl
  have kk := kk H locs ls hw hS hl
  rw [hp] at kk
  simp only [List.map_cons, ab_cv, Int32.ofInt_neg] at kk ⊢
  exact lv_ineg C.1 C.2.1 hd kk
theorem ab_p21 {i a nx : Nat} {b : Int} {L : ab_F} {st : List ab_V} {w : ab_W} {x : Int} (C : ab_Cx D cA bnd aS SL xs k p R s m args meth c) (ho : ab_nth (ab_cod k) i = some (21, a, b, nx)) (kk : ab_WW p l e R s m args below meth c Q D cA bnd aS SL xs K0 S0 k nx L ((0, ab_i2b x) :: st) w) : ab_WW p l e R s m args below meth c Q D cA bnd aS SL xs K0 S0 k i L ((0, x) :: st) w := by
  intro H locs ls hw hS hl
  obtain ⟨hd, -, hp⟩ := ab_dec1 ho (by decide) rfl rfl
  have kk := kk H locs ls hw hS hl
  rw [hp] at kk
  simp only [List.map_cons, ab_cv, ab_i2b, Int32.ofInt_toInt] at kk ⊢
  exact lv_i2b C.1 C.2.1 hd rfl kk
theorem ab_to64 (x : Int) : (Int32.ofInt x).toInt64 = Int64.ofInt (wr x) := by
  rw [← Int64.toInt_inj, Int32.toInt_toInt64, ab_i32, ab_i64]
  have := wr_in x
  unfold wl
  omega
theorem ab_p22 {i a nx : Nat} {b : Int} {L : ab_F} {st : List ab_V} {w : ab_W} {x : Int} (C : ab_Cx D cA bnd aS SL xs k p R s m args meth c) (ho : ab_nth (ab_cod k) i = some (22, a, b, nx)) (kk : ab_WW p l e R s m args below meth c Q D cA bnd aS SL xs K0 S0 k nx L ((1, wr x) :: st) w) : ab_WW p l e R s m args below meth c Q D cA bnd aS SL xs K0 S0 k i L ((0, x) :: st) w := by
  intro H locs ls hw hS hl
  obtain ⟨hd, -, hp⟩ := ab_dec1 ho (by decide) rfl rfl
  have kk := kk H locs ls hw hS hl
  rw [hp] at kk
  simp only [List.map_cons, ab_cv] at kk ⊢
  exact lv_i2l C.1 C.2.1 hd (ab_to64 x) kk
theorem ab_p23 {i a nx : Nat} {b : Int} {L : ab_F} {st : List ab_V} {w : ab_W} {x : Int} (C : ab_Cx D cA bnd aS SL xs k p R s m args meth c) (ho : ab_nth (ab_cod k) i = some (23, a, b, nx)) (kk : ab_WW p l e R s m args below meth c Q D cA bnd aS SL xs K0 S0 k nx L ((0, x) :: st) w) : ab_WW p l e R s m args below meth c Q D cA bnd aS SL xs K0 S0 k i L ((1, x) :: st) w := by
  intro H locs ls hw hS hl
  obtain ⟨hd, -, hp⟩ := ab_dec1 ho (by decide) rfl rfl
  have kk := kk H locs ls hw hS hl
  rw [hp] at kk
  simp only [List.map_cons, ab_cv] at kk ⊢
  exact lv_l2i C.1 C.2.1 hd Int64.toInt32_ofInt kk
theorem ab_p3 {i a nx : Nat} {b : Int} {L : ab_F} {st : List ab_V} {w : ab_W} {x : Int} (C : ab_Cx D cA bnd aS SL xs k p R s m args meth c) (ho : ab_nth (ab_cod k) i = some (3, a, b, nx)) (hk : ab_lk L a = some (0, x)) (kk : ab_WW p l e R s m args below meth c Q D cA bnd aS SL xs K0 S0 k nx L ((0, x) :: st) w) : ab_WW p l e R s m args below meth c Q D cA bnd aS SL xs K0 S0 k i L st w := by
  intro H locs ls hw hS hl
  have hv := ab_loc hl hk
  have kk := kk H locs ls hw hS hl
  obtain ⟨q, hq, hd, hsc, hp⟩ := ab_dec ho (show 3 < 72 by decide)
  have hp := hp.resolve_left (show ¬ ab_jmp 3 = true by decide)
  have hq : q ∈ [(Instr.iload a, 2, true), (Instr.iload_n (Fin.ofNat 4 a), 1, Nat.blt a 4)] := hq
  simp only [List.mem_cons, List.not_mem_nil, or_false] at hq
  simp only [List.map_cons, ab_cv] at kk hv
  rcases hq with rfl | rfl
  · rw [show ab_pc k nx = ab_pc k i + 2 from hp] at kk
    exact lv_iload C.1 C.2.1 hd hv kk
  · rw [show ab_pc k nx = ab_pc k i + 1 from hp] at kk
    have ha : a < 4 := ab_blt hsc
    exact lv_iload_n C.1 C.2.1 hd (by show a % 4 = a; omega) hv kk
theorem ab_p4 {i a nx : Nat} {b : Int} {L : ab_F} {st : List ab_V} {w : ab_W} {x : Int} (C : ab_Cx D cA bnd aS SL xs k p R s m args meth c) (ho : ab_nth (ab_cod k) i = some (4, a, b, nx)) (hk : ab_lk L a = some (1, x)) (kk : ab_WW p l e R s m args below meth c Q D cA bnd aS SL xs K0 S0 k nx L ((1, x) :: st) w) : ab_WW p l e R s m args below meth c Q D cA bnd aS SL xs K0 S0 k i L st w := by
  intro H locs ls hw hS hl
  have hv := ab_loc hl hk
  have kk := kk H locs ls hw hS hl
  obtain ⟨q, hq, hd, hsc, hp⟩ := ab_dec ho (show 4 < 72 by decide)
  have hp := hp.resolve_left (show ¬ ab_jmp 4 = true by decide)
  have hq : q ∈ [(Instr.lload a, 2, true), (Instr.lload_n (Fin.ofNat 4 a), 1, Nat.blt a 4)] := hq
  simp only [List.mem_cons, List.not_mem_nil, or_false] at hq
  simp only [List.map_cons, ab_cv] at kk hv
  rcases hq with rfl | rfl
  · rw [show ab_pc k nx = ab_pc k i + 2 from hp] at kk
    exact lv_lload C.1 C.2.1 hd hv kk
  · rw [show ab_pc k nx = ab_pc k i + 1 from hp] at kk
    have ha : a < 4 := ab_blt hsc
    exact lv_lload_n C.1 C.2.1 hd (by show a % 4 = a; omega) hv kk
theorem ab_p5 {i a nx : Nat} {b : Int} {L : ab_F} {st : List ab_V} {w : ab_W} {x : Int} (C : ab_Cx D cA bnd aS SL xs k p R s m args meth c) (ho : ab_nth (ab_cod k) i = some (5, a, b, nx)) (hk : ab_lk L a = some (2, x)) (kk : ab_WW p l e R s m args below meth c Q D cA bnd aS SL xs K0 S0 k nx L ((2, x) :: st) w) : ab_WW p l e R s m args below meth c Q D cA bnd aS SL xs K0 S0 k i L st w := by
  intro H locs ls hw hS hl
  have hv := ab_loc hl hk
  have kk := kk H locs ls hw hS hl
  obtain ⟨q, hq, hd, hsc, hp⟩ := ab_dec ho (show 5 < 72 by decide)
  have hp := hp.resolve_left (show ¬ ab_jmp 5 = true by decide)
  have hq : q ∈ [(Instr.aload a, 2, true), (Instr.aload_n (Fin.ofNat 4 a), 1, Nat.blt a 4)] := hq
  simp only [List.mem_cons, List.not_mem_nil, or_false] at hq
  simp only [List.map_cons, ab_cv] at kk hv
  rcases hq with rfl | rfl
  · rw [show ab_pc k nx = ab_pc k i + 2 from hp] at kk
    exact lv_aload C.1 C.2.1 hd hv kk
  · rw [show ab_pc k nx = ab_pc k i + 1 from hp] at kk
    have ha : a < 4 := ab_blt hsc
    exact lv_aload_n C.1 C.2.1 hd (by show a % 4 = a; omega) hv kk
theorem ab_p6 {i a nx : Nat} {b : Int} {L : ab_F} {st : List ab_V} {w : ab_W} {x : Int} (C : ab_Cx D cA bnd aS SL xs k p R s m args meth c) (ho : ab_nth (ab_cod k) i = some (6, a, b, nx)) (kk : ab_WW p l e R s m args below meth c Q D cA bnd aS SL xs K0 S0 k nx (ab_s1 L a (0, x)) st w) : ab_WW p l e R s m args below meth c Q D cA bnd aS SL xs K0 S0 k i L ((0, x) :: st) w := by
  intro H locs ls hw hS hl
  obtain ⟨q, hq, hd, hsc, hp⟩ := ab_dec ho (show 6 < 72 by decide)
  have hp := hp.resolve_left (show ¬ ab_jmp 6 = true by decide)
  have hq : q ∈ [(Instr.istore a, 2, Nat.blt a (ab_mxl k)), (Instr.istore_n (Fin.ofNat 4 a), 1, Nat.blt a 4 && Nat.blt a (ab_mxl k))] := hq
  simp only [List.mem_cons, List.not_mem_nil, or_false] at hq
  rcases hq with rfl | rfl
  · have ha : a < ab_mxl k := ab_blt hsc
    refine lv_istore C.1 C.2.1 hd hl ha rfl (fun ls2 hl2 => ?_)
    have hl2 := ab_has_sub hl2 (ab_s1_sub (ad := ab_ad bnd aS) (L := L) (i := a) (v := (0, x)))
    have kk := kk H locs ls2 hw hS hl2
    rwa [show ab_pc k nx = ab_pc k i + 2 from hp] at kk
  · have ha : a < 4 ∧ a < ab_mxl k := by
      have hsc : (Nat.blt a 4 && Nat.blt a (ab_mxl k)) = true := hsc
      simp only [Bool.and_eq_true] at hsc
      exact ⟨ab_blt hsc.1, ab_blt hsc.2⟩
    refine lv_istore_n C.1 C.2.1 hd (i := a) (by show a % 4 = a; omega) hl ha.2 rfl (fun ls2 hl2 => ?_)
    have hl2 := ab_has_sub hl2 (ab_s1_sub (ad := ab_ad bnd aS) (L := L) (i := a) (v := (0, x)))
    have kk := kk H locs ls2 hw hS hl2
    rwa [show ab_pc k nx = ab_pc k i + 1 from hp] at kk
theorem ab_p7 {i a nx : Nat} {b : Int} {L : ab_F} {st : List ab_V} {w : ab_W} {x : Int} (C : ab_Cx D cA bnd aS SL xs k p R s m args meth c) (ho : ab_nth (ab_cod k) i = some (7, a, b, nx)) (kk : ab_WW p l e R s m args below meth c Q D cA bnd aS SL xs K0 S0 k nx (ab_s2 L a (1, x)) st w) : ab_WW p l e R s m args below meth c Q D cA bnd aS SL xs K0 S0 k i L ((1, x) :: st) w := by
  intro H locs ls hw hS hl
  obtain ⟨q, hq, hd, hsc, hp⟩ := ab_dec ho (show 7 < 72 by decide)
  have hp := hp.resolve_left (show ¬ ab_jmp 7 = true by decide)
  have hq : q ∈ [(Instr.lstore a, 2, Nat.blt (a + 1) (ab_mxl k)), (Instr.lstore_n (Fin.ofNat 4 a), 1, Nat.blt a 4 && Nat.blt (a + 1) (ab_mxl k))] := hq
  simp only [List.mem_cons, List.not_mem_nil, or_false] at hq
  rcases hq with rfl | rfl
  · have ha : (a + 1) < ab_mxl k := ab_blt hsc
    refine lv_lstore C.1 C.2.1 hd hl ha rfl (fun ls2 hl2 => ?_)
    have hl2 := ab_has_sub hl2 (ab_s2_sub (ad := ab_ad bnd aS) (L := L) (i := a) (v := (1, x)))
    have kk := kk H locs ls2 hw hS hl2
    rwa [show ab_pc k nx = ab_pc k i + 2 from hp] at kk
  · have ha : a < 4 ∧ (a + 1) < ab_mxl k := by
      have hsc : (Nat.blt a 4 && Nat.blt (a + 1) (ab_mxl k)) = true := hsc
      simp only [Bool.and_eq_true] at hsc
      exact ⟨ab_blt hsc.1, ab_blt hsc.2⟩
    refine lv_lstore_n C.1 C.2.1 hd (i := a) (by show a % 4 = a; omega) hl ha.2 rfl (fun ls2 hl2 => ?_)
    have hl2 := ab_has_sub hl2 (ab_s2_sub (ad := ab_ad bnd aS) (L := L) (i := a) (v := (1, x)))
    have kk := kk H locs ls2 hw hS hl2
    rwa [show ab_pc k nx = ab_pc k i + 1 from hp] at kk
theorem ab_p8 {i a nx : Nat} {b : Int} {L : ab_F} {st : List ab_V} {w : ab_W} {x : Int} (C : ab_Cx D cA bnd aS SL xs k p R s m args meth c) (ho : ab_nth (ab_cod k) i = some (8, a, b, nx)) (kk : ab_WW p l e R s m args below meth c Q D cA bnd aS SL xs K0 S0 k nx (ab_s1 L a (2, x)) st w) : ab_WW p l e R s m args below meth c Q D cA bnd aS SL xs K0 S0 k i L ((2, x) :: st) w := by
  intro H locs ls hw hS hl
  obtain ⟨q, hq, hd, hsc, hp⟩ := ab_dec ho (show 8 < 72 by decide)
  have hp := hp.resolve_left (show ¬ ab_jmp 8 = true by decide)
  have hq : q ∈ [(Instr.astore a, 2, Nat.blt a (ab_mxl k)), (Instr.astore_n (Fin.ofNat 4 a), 1, Nat.blt a 4 && Nat.blt a (ab_mxl k))] := hq
  simp only [List.mem_cons, List.not_mem_nil, or_false] at hq
  rcases hq with rfl | rfl
  · have ha : a < ab_mxl k := ab_blt hsc
    refine lv_astore C.1 C.2.1 hd hl ha rfl (fun ls2 hl2 => ?_)
    have hl2 := ab_has_sub hl2 (ab_s1_sub (ad := ab_ad bnd aS) (L := L) (i := a) (v := (2, x)))
    have kk := kk H locs ls2 hw hS hl2
    rwa [show ab_pc k nx = ab_pc k i + 2 from hp] at kk
  · have ha : a < 4 ∧ a < ab_mxl k := by
      have hsc : (Nat.blt a 4 && Nat.blt a (ab_mxl k)) = true := hsc
      simp only [Bool.and_eq_true] at hsc
      exact ⟨ab_blt hsc.1, ab_blt hsc.2⟩
    refine lv_astore_n C.1 C.2.1 hd (i := a) (by show a % 4 = a; omega) hl ha.2 rfl (fun ls2 hl2 => ?_)
    have hl2 := ab_has_sub hl2 (ab_s1_sub (ad := ab_ad bnd aS) (L := L) (i := a) (v := (2, x)))
    have kk := kk H locs ls2 hw hS hl2
    rwa [show ab_pc k nx = ab_pc k i + 1 from hp] at kk
theorem ab_p9 {i a nx : Nat} {b : Int} {L : ab_F} {st : List ab_V} {w : ab_W} {x : Int} (C : ab_Cx D cA bnd aS SL xs k p R s m args meth c) (ho : ab_nth (ab_cod k) i = some (9, a, b, nx)) (hk : ab_lk L a = some (0, x)) (kk : ab_WW p l e R s m args below meth c Q D cA bnd aS SL xs K0 S0 k nx (ab_s1 L a (0, x + b)) st w) : ab_WW p l e R s m args below meth c Q D cA bnd aS SL xs K0 S0 k i L st w := by
  intro H locs ls hw hS hl
  obtain ⟨hd, hsc, hp⟩ := ab_dec1 ho (by decide) rfl rfl
  have ha : a < ab_mxl k := ab_blt hsc
  obtain ⟨n, hn⟩ := List.getElem?_of_mem (ab_al_in (ad := ab_ad bnd aS) (j := 0) hk)
  rw [Nat.zero_add] at hn
  refine lv_iinc C.1 C.2.1 hd hl (k := n) (x := Int32.ofInt x) (v := Int32.ofInt (x + b)) hn (by rw [Int32.ofInt_add]) ha rfl (fun ls2 hl2 => ?_)
  have hl2 := ab_has_sub hl2 (ab_s1_sub (ad := ab_ad bnd aS) (L := L) (i := a) (v := (0, x + b)))
  have kk := kk H locs ls2 hw hS hl2
  rwa [hp] at kk
theorem ab_p2 {i a nx : Nat} {b : Int} {L : ab_F} {st : List ab_V} {w : ab_W} (C : ab_Cx D cA bnd aS SL xs k p R s m args meth c) (ho : ab_nth (ab_cod k) i = some (2, a, b, nx)) (kk : ab_WW p l e R s m args below meth c Q D cA bnd aS SL xs K0 S0 k nx L ((0, b) :: st) w) : ab_WW p l e R s m args below meth c Q D cA bnd aS SL xs K0 S0 k i L st w := by
  intro H locs ls hw hS hl
  have kk := kk H locs ls hw hS hl
  obtain ⟨q, hq, hd, hsc, hp⟩ := ab_dec ho (show 2 < 72 by decide)
  have hp := hp.resolve_left (show ¬ ab_jmp 2 = true by decide)
  have hq : q ∈ [(Instr.iconst b, 1, true), (.bipush b, 2, decide ((Int8.ofInt b).toInt32 = Int32.ofInt b)), (.sipush b, 3, decide ((Int16.ofInt b).toInt32 = Int32.ofInt b)), (.ldc (ab_ax k i).2.1, 2, Nat.beq (ab_ax k i).2.2.2 9), (.ldc_w (ab_ax k i).2.1, 3, Nat.beq (ab_ax k i).2.2.2 9)] := hq
  have hword : Nat.beq (ab_ax k i).2.2.2 9 = true → (Cond.constant (ab_own k) (ab_ax k i).2.1 (Int32.ofInt b)) ∈ ab_TB := by
    intro h9
    have h9 := Nat.eq_of_beq_eq_true h9
    have hm : ((ab_ax k i).2.2.1, Cond.constant (ab_own k) (ab_ax k i).2.1 (Int32.ofInt b)) ∈ ab_nw k i (2, a, b, nx) := by
      show _ ∈ (match (ab_ax k i).2.2.2 with
        | 9 => [((ab_ax k i).2.2.1, Cond.constant (ab_own k) (ab_ax k i).2.1 (Int32.ofInt b))]
        | _ => [])
      rw [h9]
      exact List.mem_singleton.mpr rfl
    rcases ab_nw_ok ho hm with h | h
    · exact h.2
    · exact absurd h.1 (by simp [ab_isN])
  simp only [List.mem_cons, List.not_mem_nil, or_false] at hq
  simp only [List.map_cons, ab_cv] at kk
  rcases hq with rfl | rfl | rfl | rfl | rfl
  · rw [show ab_pc k nx = ab_pc k i + 1 from hp] at kk
    exact lv_iconst C.1 C.2.1 hd rfl kk
  · rw [show ab_pc k nx = ab_pc k i + 2 from hp] at kk
    exact lv_bipush C.1 C.2.1 hd (of_decide_eq_true hsc) kk
  · rw [show ab_pc k nx = ab_pc k i + 3 from hp] at kk
    exact lv_sipush C.1 C.2.1 hd (of_decide_eq_true hsc) kk
  · rw [show ab_pc k nx = ab_pc k i + 2 from hp] at kk
    exact W.ldc C.1 C.2.1 C.2.2.2.1 (C.2.2.2.2.1 _ (hword hsc)) rfl hd kk
  · rw [show ab_pc k nx = ab_pc k i + 3 from hp] at kk
    exact lv_ldcw C.1 C.2.1 C.2.2.2.1 (C.2.2.2.2.1 _ (hword hsc)) hd kk
theorem ab_p27 {i a nx : Nat} {b : Int} {L : ab_F} {st : List ab_V} {w : ab_W} (C : ab_Cx D cA bnd aS SL xs k p R s m args meth c) (ho : ab_nth (ab_cod k) i = some (27, a, b, nx)) (kk : ab_WW p l e R s m args below meth c Q D cA bnd aS SL xs K0 S0 k nx L ((1, b) :: st) w) : ab_WW p l e R s m args below meth c Q D cA bnd aS SL xs K0 S0 k i L st w := by
  intro H locs ls hw hS hl
  have kk := kk H locs ls hw hS hl
  obtain ⟨hd, hsc, hp⟩ := ab_dec1 ho (by decide) rfl rfl
  have hb : b = 0 := of_decide_eq_true hsc
  subst hb
  rw [hp] at kk
  exact lv_lconst C.1 C.2.1 hd rfl kk
theorem ab_p28 {i a nx : Nat} {b : Int} {L : ab_F} {st : List ab_V} {w : ab_W} {v : ab_V} (hv : v.1 = 0 ∨ v.1 = 2) (C : ab_Cx D cA bnd aS SL xs k p R s m args meth c) (ho : ab_nth (ab_cod k) i = some (28, a, b, nx)) (kk : ab_WW p l e R s m args below meth c Q D cA bnd aS SL xs K0 S0 k nx L (v :: v :: st) w) : ab_WW p l e R s m args below meth c Q D cA bnd aS SL xs K0 S0 k i L (v :: st) w := by
  intro H locs ls hw hS hl
  have kk := kk H locs ls hw hS hl
  obtain ⟨hd, -, hp⟩ := ab_dec1 ho (by decide) rfl rfl
  rw [hp] at kk
  obtain ⟨t, x⟩ := v
  rcases hv with hv | hv <;> (dsimp only at hv; subst hv; exact lv_dup C.1 C.2.1 hd rfl kk)
theorem ab_p29 {i a nx : Nat} {b : Int} {L : ab_F} {st : List ab_V} {w : ab_W} {x y : Int} (C : ab_Cx D cA bnd aS SL xs k p R s m args meth c) (ho : ab_nth (ab_cod k) i = some (29, a, b, nx)) (kk : ab_WW p l e R s m args below meth c Q D cA bnd aS SL xs K0 S0 k nx L ((0, y) :: (2, x) :: (0, y) :: (2, x) :: st) w) : ab_WW p l e R s m args below meth c Q D cA bnd aS SL xs K0 S0 k i L ((0, y) :: (2, x) :: st) w := by
  intro H locs ls hw hS hl
  have kk := kk H locs ls hw hS hl
  obtain ⟨hd, -, hp⟩ := ab_dec1 ho (by decide) rfl rfl
  rw [hp] at kk
  exact lv_dup2_11 C.1 C.2.1 hd rfl rfl kk
theorem ab_p30 {i a nx : Nat} {b : Int} {L : ab_F} {st : List ab_V} {w : ab_W} {x : Int} (C : ab_Cx D cA bnd aS SL xs k p R s m args meth c) (ho : ab_nth (ab_cod k) i = some (30, a, b, nx)) (kk : ab_WW p l e R s m args below meth c Q D cA bnd aS SL xs K0 S0 k nx L st w) : ab_WW p l e R s m args below meth c Q D cA bnd aS SL xs K0 S0 k i L ((0, x) :: st) w := by
  intro H locs ls hw hS hl
  have kk := kk H locs ls hw hS hl
  obtain ⟨hd, -, hp⟩ := ab_dec1 ho (by decide) rfl rfl
  rw [hp] at kk
  exact lv_pop C.1 C.2.1 hd rfl kk
theorem ab_p31 {i a nx : Nat} {b : Int} {L : ab_F} {st : List ab_V} {w : ab_W} (C : ab_Cx D cA bnd aS SL xs k p R s m args meth c) (ho : ab_nth (ab_cod k) i = some (31, a, b, nx)) (kk : ab_WW p l e R s m args below meth c Q D cA bnd aS SL xs K0 S0 k a L st w) : ab_WW p l e R s m args below meth c Q D cA bnd aS SL xs K0 S0 k i L st w := by
  intro H locs ls hw hS hl
  have kk := kk H locs ls hw hS hl
  obtain ⟨q, hq, hd, hsc, -⟩ := ab_dec ho (show 31 < 72 by decide)
  have hq : q ∈ [(Instr.goto ((ab_pc k a : Int) - (ab_pc k i : Int)), 3, true)] := hq
  cases List.mem_singleton.mp hq
  exact lv_goto C.1 C.2.1 hd (by omega) kk
end AbPure
end
section
/-! THE ABSTRACT MACHINE IS SOUND, part 3: the steps that touch the world. -/
theorem ab_kdl_ok : ab_kdl.all (fun q => decide (0 ≤ q.1 ∧ 0 ≤ q.2 ∧ q.2 < 1000000 ∧ (q.1 < 10 ∨ (100 ≤ q.1 ∧ q.1 ≤ 104)))) = true := by decide +kernel
theorem ab_kd_mem (a : Int) : ab_kd a = (999, 0) ∨ (ab_kd a ∈ ab_kdl ∧ a < 186) := by
  cases a with
  | negSucc n => exact Or.inl rfl
  | ofNat n =>
    cases h : ab_nth ab_kdl n with
    | none => exact Or.inl (by simp [ab_kd, h])
    | some q =>
      refine Or.inr ⟨by simp only [ab_kd, h, Option.getD_some]; exact ab_nth_mem h, ?_⟩
      have h2 := ab_nth_lt h
      have h3 : ab_kdl.length = 186 := by decide +kernel
      rw [h3] at h2
      show (n : Int) < 186
      omega
theorem ab_kd_in {a : Int} : 0 ≤ (ab_kd a).1 ∧ 0 ≤ (ab_kd a).2 ∧ (ab_kd a).2 < 1000000 ∧ ((ab_kd a).1 < 10 ∨ (100 ≤ (ab_kd a).1 ∧ (ab_kd a).1 ≤ 104) ∨ (ab_kd a).1 = 999) := by
  rcases ab_kd_mem a with h | ⟨h, -⟩
  · rw [h]; decide
  · have h1 := List.all_eq_true.mp ab_kdl_ok _ h
    simp only [decide_eq_true_eq] at h1
    exact ⟨h1.1, h1.2.1, h1.2.2.1, h1.2.2.2.imp id Or.inl⟩
theorem ab_kd_186 {a : Int} (h : (ab_kd a).1 ≠ 999) : a < 186 := by
  rcases ab_kd_mem a with h1 | ⟨-, h1⟩
  · rw [h1] at h; exact absurd rfl h
  · exact h1
theorem ab_layC : (List.range 10).all (fun c => (List.range (ab_nF c)).all (fun k => goodWord (u_lay (ab_cls c).1 (ab_T c) k))) = true := by decide +kernel
set_option maxRecDepth 100000 in
theorem ab_layD : (List.range 10).map (fun c => (List.range (ab_nF c)).map (fun k => ab_gw ((ab_nth ((ab_nth ab_layL c).getD []) k).getD 0))) = (List.range 10).map (fun c => (List.range (ab_nF c)).map (fun k => some (u_lay (ab_cls c).1 (ab_T c) k))) := rfl
theorem ab_lays {c : Nat} (hc : c < 10) : ∀ w ∈ u_ws (ab_cls c).1 (ab_T c) (ab_nF c), w ∈ ab_TB := by
  intro w hw
  obtain ⟨k, hk, rfl⟩ := List.mem_map.mp hw
  have h1 := List.all_eq_true.mp ab_layC c (List.mem_range.mpr hc)
  have h2 := List.map_inj_left.mp (List.map_inj_left.mp ab_layD c (List.mem_range.mpr hc)) k hk
  exact ab_in_TB h2 (List.all_eq_true.mp h1 k hk)
theorem ab_tyC : (List.range 10).all (fun c => (List.range (ab_nF c)).all (fun k => decide (parseFieldDescriptor (ab_fld c k).2.1 = some (ab_ty c k)) && (List.range (ab_nF c)).all (fun j => Nat.beq k j || decide ((ab_fld c k).1 ≠ (ab_fld c j).1)))) = true := by decide +kernel
theorem ab_tys_ok {c : Nat} (hc : c < 10) : ∀ k, k < ab_nF c → parseFieldDescriptor (ab_T c k).2.2.1 = some (ab_ty c k) := by
  intro k hk
  have h1 := List.all_eq_true.mp (List.all_eq_true.mp ab_tyC c (List.mem_range.mpr hc)) k (List.mem_range.mpr hk)
  simp only [Bool.and_eq_true, decide_eq_true_eq] at h1
  exact h1.1
theorem ab_nms_ok {c : Nat} (hc : c < 10) : ∀ a, a < ab_nF c → ∀ b, b < ab_nF c → a ≠ b → (ab_T c a).2.1 ≠ (ab_T c b).2.1 := by
  intro a ha b hb hab
  have h1 := List.all_eq_true.mp (List.all_eq_true.mp ab_tyC c (List.mem_range.mpr hc)) a (List.mem_range.mpr ha)
  simp only [Bool.and_eq_true, decide_eq_true_eq] at h1
  have h2 := List.all_eq_true.mp h1.2 b (List.mem_range.mpr hb)
  simp only [Bool.or_eq_true, decide_eq_true_eq] at h2
  rcases h2 with h2 | h2
  · exact absurd (Nat.eq_of_beq_eq_true h2) hab
  · exact h2
theorem ab_lk_ok {own : String} {cp fl c a : Nat} (h : (goodWord (ab_lkW own cp fl c a) = true ∧ (ab_lkW own cp fl c a) ∈ ab_TB) ∨ (ab_isN (ab_lkW own cp fl c a) = true ∧ (ab_lkW own cp fl c a) ∈ ab_NW)) :
    (fl = 0 ∧ (Cond.fieldLink own cp (ab_cls c).1 (ab_fld c a).1 (ab_fld c a).2.1) ∈ ab_TB) ∨ (fl ≠ 0 ∧ (Cond.fieldLinkNest own cp (ab_cls c).1 (ab_fld c a).1 (ab_fld c a).2.1 "EventLedger") ∈ ab_NW) := by
  match fl, h with
  | 0, h =>
    rcases h with h | h
    · exact Or.inl ⟨rfl, h.2⟩
    · exact absurd h.1 (by simp [ab_lkW, ab_isN])
  | n + 1, h =>
    rcases h with h | h
    · exact absurd h.1 (by simp [ab_lkW, goodWord, Cond.onTables, Cond.keeps, Cond.steady])
    · exact Or.inr ⟨by omega, h.2⟩
theorem ab_own_ok {k : Nat} (hk : k < 245) {ci : Nat} (h : ab_cli k = ci) (hc : ci < 10) : (ab_cls ci).1 = ab_own k := by
  have h1 := congrArg Prod.fst (ab_ms_ok hk)
  have h2 : (ab_m k).1 = (match ab_cli k with
    | 10 => "EventLedgerLaw"
    | c => (ab_cls c).1) := h1
  rw [h] at h2
  rw [ab_own, h2]
  match ci, hc with
  | 0, _ => rfl
  | 1, _ => rfl
  | 2, _ => rfl
  | 3, _ => rfl
  | 4, _ => rfl
  | 5, _ => rfl
  | 6, _ => rfl
  | 7, _ => rfl
  | 8, _ => rfl
  | 9, _ => rfl
theorem ab_ini_ok {k : Nat} (hk : k < 245) (h : ab_knd k = 1) : (ab_yn k).name = "<init>" := by
  have h1 := congrArg Prod.snd (ab_ms_ok hk)
  have h2 : (match ab_knd k with
    | 1 => (ab_yn k).name
    | _ => "<init>") = "<init>" := h1
  rw [h] at h2
  exact h2
theorem ab_ce_ob {ad : Int → Nat} {cA : Nat → ClassId} {g r : ab_H} {a : Int} {c : Nat} (h : (ab_kd a).1 = (c : Int)) (hc : c < 10) : ab_ce ad cA g r a = .inr (c, ab_fs ad g r c a) := by
  unfold ab_ce
  rw [if_pos (by omega), h]
  rfl
theorem ab_ce_ar {ad : Int → Nat} {cA : Nat → ClassId} {g r : ab_H} {a : Int} {t : Nat} (h : (ab_kd a).1 = 100 + (t : Int)) (ht : t < 3) : ab_ce ad cA g r a = .inl (cA t, (ab_kd a).2.toNat, .inl fun j => Int32.ofInt (g a j)) := by
  unfold ab_ce
  rw [if_neg (by omega), if_neg (by omega), if_neg (by omega), h, show ((100 : Int) + t - 100).toNat = t by omega]
theorem ab_ce_al {ad : Int → Nat} {cA : Nat → ClassId} {g r : ab_H} {a : Int} (h : (ab_kd a).1 = 103) : ab_ce ad cA g r a = .inl (cA 3, (ab_kd a).2.toNat, .inr (.inl fun j => Int64.ofInt (g a j))) := by
  unfold ab_ce
  rw [if_neg (by omega), if_pos h]
theorem ab_ce_aq {ad : Int → Nat} {cA : Nat → ClassId} {g r : ab_H} {a : Int} (h : (ab_kd a).1 = 104) : ab_ce ad cA g r a = .inl (cA 4, (ab_kd a).2.toNat, .inr (.inr (.inr (.inr fun j => if r a j = -1 then none else some (ad (r a j)))))) := by
  unfold ab_ce
  rw [if_neg (by omega), if_neg (by omega), if_pos h]
theorem ab_ce_congr {ad : Int → Nat} {cA : Nat → ClassId} {g r g' r' : ab_H} {a : Int} (h1 : g' a = g a) (h2 : r' a = r a) : ab_ce ad cA g' r' a = ab_ce ad cA g r a := by
  unfold ab_ce ab_fs
  rw [h1, h2]
theorem ab_up_ne {g : ab_H} {a k v b : Int} (h : b ≠ a) : ab_up g a k v b = g b := by
  funext j
  simp [ab_up, h]
theorem ab_up_at (g : ab_H) (a k v : Int) : ab_up g a k v a k = v := by simp [ab_up]
theorem ab_up_k {g : ab_H} {a k v j : Int} (h : j ≠ k) : ab_up g a k v a j = g a j := by simp [ab_up, h]
theorem ab_new_ne {g : ab_H} {K v b : Int} (h : b ≠ K) : ab_new g K v b = g b := by
  funext j
  simp [ab_new, h]
theorem ab_new_at (g : ab_H) (K v j : Int) : ab_new g K v K j = v := by simp [ab_new]
theorem ab_P1 {D : va_G} {cl : List vw_C} {q : Nat × va_E} {H : Heap} (h : va_at D cl q H) : va_P D cl [q] H := by
  intro k x hx
  cases k with
  | zero => cases hx; exact h
  | succ k => simp at hx
theorem ab_hw_set {D : va_G} {cA : Nat → ClassId} {bnd : Nat} {aS : Int → Nat} {SL : Nat} {xs : Nat → Int32} {w : ab_W} {H H' : Heap} {a : Int} {g' r' : ab_H} (hw : ab_HW D cA bnd aS SL xs w H) (h0 : 0 ≤ a) (hz : H'.size = H.size) (hoff : ∀ q : Nat, q ≠ ab_ad bnd aS a → H'[q]? = H[q]?)
    (hon : va_at D ab_clsK (ab_ad bnd aS a, ab_ce (ab_ad bnd aS) cA g' r' a) H') (hg : ∀ b, b ≠ a → g' b = w.2.2.1 b) (hr : ∀ b, b ≠ a → r' b = w.2.2.2 b) : ab_HW D cA bnd aS SL xs (w.1, w.2.1, g', r') H' := by
  obtain ⟨h1, h2, h3, h4, h5, h6, h7⟩ := hw
  refine ⟨fun b hb0 hb1 => ?_, fun h => by rw [hz]; exact h2 h, by rw [hz]; exact h3, h4, h5, ?_, ?_⟩
  · by_cases hb : b = a
    · rw [hb]; exact hon
    · show va_at D ab_clsK (_, ab_ce _ _ g' r' b) H'
      rw [ab_ce_congr (hg b hb) (hr b hb)]
      refine (h1 b hb0 hb1).kept (hoff _ ?_)
      rw [ab_ad_nn hb0, ab_ad_nn h0]
      omega
  · intro j hj
    show Int32.ofInt (g' (-2) j) = xs j
    rw [hg (-2) (by omega)]
    exact h6 j hj
  · show r' (-2) (-1) = SL
    rw [hr (-2) (by omega)]
    exact h7
theorem ab_S_put {bnd : Nat} {H0 H H1 : Heap} {locs : List Loc} {a : Nat} {j : Nat} (h : va_S (fun q => bnd ≤ q) H0 H locs) (z : H1.size = H.size) (oq : ∀ q : Nat, q ≠ a → H1[q]? = H[q]?) (ha : bnd ≤ a) : va_S (fun q => bnd ≤ q) H0 H1 (locs ++ [⟨a, j⟩]) := h.put z oq ha
theorem ab_fs_len (ad : Int → Nat) (g r : ab_H) (c : Nat) (a : Int) : (ab_fs ad g r c a).length = ab_nF c := by simp [ab_fs]
theorem ab_fs_at {ad : Int → Nat} {g r : ab_H} {c : Nat} {a : Int} {j : Nat} (h : j < ab_nF c) : (ab_fs ad g r c a)[j]? = some (ab_fv ad (ab_fld c j).2.2.2 (g a j) (r a j)) := by
  simp [ab_fs, List.getElem?_map, List.getElem?_range, h]
theorem ab_fs_set {ad : Int → Nat} {g r g' r' : ab_H} {c : Nat} {a : Int} {j : Nat} (hg : ∀ i : Nat, i ≠ j → g' a i = g a i) (hr : ∀ i : Nat, i ≠ j → r' a i = r a i) : (ab_fs ad g r c a).set j (ab_fv ad (ab_fld c j).2.2.2 (g' a j) (r' a j)) = ab_fs ad g' r' c a := by
  apply List.ext_getElem?
  intro i
  rw [List.getElem?_set]
  by_cases hi : i < ab_nF c
  · by_cases hij : j = i
    · subst hij
      rw [if_pos rfl, ab_fs_len, if_pos hi, ab_fs_at hi]
    · rw [if_neg hij, ab_fs_at hi, ab_fs_at hi, hg i (Ne.symm hij), hr i (Ne.symm hij)]
  · have h1 : (ab_fs ad g r c a)[i]? = none := by rw [List.getElem?_eq_none_iff, ab_fs_len]; omega
    have h2 : (ab_fs ad g' r' c a)[i]? = none := by rw [List.getElem?_eq_none_iff, ab_fs_len]; omega
    rw [h1, h2]
    split
    · rw [ab_fs_len]; split
      · omega
      · rfl
    · rfl
section AbHeap
variable {p : Program} {l : Launch} {e : Env} {R : Room} {s : State} {m : MethodId} {args : Array Value} {below : List Frame} {meth : Method} {c : Code} {Q : State → Prop} {D : va_G} {cA : Nat → ClassId} {bnd : Nat} {aS : Int → Nat} {SL : Nat} {xs : Nat → Int32} {K0 : Int} {S0 : Nat} {k : Nat}
theorem ab_p35 {i a nx : Nat} {b : Int} {L : ab_F} {st : List ab_V} {w : ab_W} {x : Int} (C : ab_Cx D cA bnd aS SL xs k p R s m args meth c) (ho : ab_nth (ab_cod k) i = some (35, a, b, nx)) (hx : (ab_kd x).1 = b ∧ 0 ≤ x ∧ x < w.1) (kk : ab_WW p l e R s m args below meth c Q D cA bnd aS SL xs K0 S0 k nx L ((0, w.2.2.1 x a) :: st) w) : ab_WW p l e R s m args below meth c Q D cA bnd aS SL xs K0 S0 k i L ((2, x) :: st) w := by
  intro H locs ls hw hS hl
  have kk := kk H locs ls hw hS hl
  obtain ⟨hd, hsc, hp⟩ := ab_dec1 ho (by decide) rfl rfl
  rw [hp] at kk
  simp only [Bool.and_eq_true, decide_eq_true_eq] at hsc
  obtain ⟨⟨hfB, hb0⟩, hlk⟩ := hsc
  simp only [ab_fB, Bool.and_eq_true] at hfB
  obtain ⟨⟨hc10, haF⟩, htg⟩ := hfB
  have hc10 : b.toNat < 10 := ab_blt hc10
  have haF : a < ab_nF b.toNat := ab_blt haF
  have hat := hw.1 x hx.2.1 hx.2.2
  rw [ab_ce_ob (c := b.toNat) (by rw [hx.1]; omega) hc10] at hat
  have hv : (ab_fs (ab_ad bnd aS) w.2.2.1 w.2.2.2 b.toNat x)[a]? = some (.int (Int32.ofInt (w.2.2.1 x a))) := by
    rw [ab_fs_at haF]
    have h2 : (ab_fld b.toNat a).2.2.2 = 0 ∨ (ab_fld b.toNat a).2.2.2 = 3 := by simpa using htg
    rcases h2 with h2 | h2 <;> rw [h2] <;> rfl
  rcases ab_lk_ok (ab_nw_ok ho (List.mem_singleton.mpr rfl)) with ⟨-, hlk⟩ | ⟨-, hlk⟩
  · exact va_get (D := D) (cl := ab_clsK) (Ts := ab_TB) C.1 C.2.1 C.2.2.2.2.1 (ab_lays hc10) C.2.2.2.1 C.2.2.2.2.2.2.2.2.2.2.1 (ab_P1 hat) 0 rfl (ab_clsK_at hc10) a haF (C.2.2.2.2.1 _ hlk) (fun _ h => h) hv hd kk
  · exact va_getN (D := D) (cl := ab_clsK) (Ts := ab_TB) C.1 C.2.1 C.2.2.2.2.1 (ab_lays hc10) C.2.2.2.1 C.2.2.2.2.2.2.2.2.2.2.1 (ab_P1 hat) 0 rfl (ab_clsK_at hc10) a haF (va_Nw.use rfl (C.2.2.2.2.2.1.1 _ hlk)) (fun _ h => h) hv hd kk
theorem ab_p37 {i a nx : Nat} {b : Int} {L : ab_F} {st : List ab_V} {w : ab_W} {x : Int} (C : ab_Cx D cA bnd aS SL xs k p R s m args meth c) (ho : ab_nth (ab_cod k) i = some (37, a, b, nx)) (hx : (ab_kd x).1 = b ∧ 0 ≤ x ∧ x < w.1) (hn : w.2.2.2 x a ≠ -1) (kk : ab_WW p l e R s m args below meth c Q D cA bnd aS SL xs K0 S0 k nx L ((2, w.2.2.2 x a) :: st) w) : ab_WW p l e R s m args below meth c Q D cA bnd aS SL xs K0 S0 k i L ((2, x) :: st) w := by
  intro H locs ls hw hS hl
  have kk := kk H locs ls hw hS hl
  obtain ⟨hd, hsc, hp⟩ := ab_dec1 ho (by decide) rfl rfl
  rw [hp] at kk
  simp only [Bool.and_eq_true, decide_eq_true_eq] at hsc
  obtain ⟨⟨hfB, hb0⟩, hlk⟩ := hsc
  simp only [ab_fB, Bool.and_eq_true] at hfB
  obtain ⟨⟨hc10, haF⟩, htg⟩ := hfB
  have hc10 : b.toNat < 10 := ab_blt hc10
  have haF : a < ab_nF b.toNat := ab_blt haF
  have hat := hw.1 x hx.2.1 hx.2.2
  rw [ab_ce_ob (c := b.toNat) (by rw [hx.1]; omega) hc10] at hat
  have hv : (ab_fs (ab_ad bnd aS) w.2.2.1 w.2.2.2 b.toNat x)[a]? = some (.ref (ab_ad bnd aS (w.2.2.2 x a))) := by
    rw [ab_fs_at haF]
    have h2 : (ab_fld b.toNat a).2.2.2 = 2 := by simpa using htg
    rw [h2]
    simp [ab_fv, hn]
  rcases ab_lk_ok (ab_nw_ok ho (List.mem_singleton.mpr rfl)) with ⟨-, hlk⟩ | ⟨-, hlk⟩
  · exact va_get (D := D) (cl := ab_clsK) (Ts := ab_TB) C.1 C.2.1 C.2.2.2.2.1 (ab_lays hc10) C.2.2.2.1 C.2.2.2.2.2.2.2.2.2.2.1 (ab_P1 hat) 0 rfl (ab_clsK_at hc10) a haF (C.2.2.2.2.1 _ hlk) (fun _ h => h) hv hd kk
  · exact va_getN (D := D) (cl := ab_clsK) (Ts := ab_TB) C.1 C.2.1 C.2.2.2.2.1 (ab_lays hc10) C.2.2.2.1 C.2.2.2.2.2.2.2.2.2.2.1 (ab_P1 hat) 0 rfl (ab_clsK_at hc10) a haF (va_Nw.use rfl (C.2.2.2.2.2.1.1 _ hlk)) (fun _ h => h) hv hd kk
theorem ab_narr {ty : FieldType} {a : Nat} (h : ty.isReference = true) : narrow ty (.ref a) = .ref a := by
  cases ty <;> first | rfl | (simp [FieldType.isReference] at h)
theorem ab_fitr {ty : FieldType} {a : Nat} (h : ty.isReference = true) : fits ty (.ref a) = true := by
  cases ty <;> first | rfl | (simp [FieldType.isReference] at h)
/-- a store into a field of a kind of ours, by a link of its own or of a nest -/
theorem ab_put {ci j idx o : Nat} {H : Heap} {locs : List Loc} {pc : Nat} {ls : Array Slot} {rest : List Value} {v : Value} {cells slots : Nat} {fs : List Value}
    (C : ab_Cx D cA bnd aS SL xs k p R s m args meth c) (hc10 : ci < 10) (hj : j < ab_nF ci) (hat : va_at D ab_clsK (o, .inr (ci, fs)) H) (hfl : fs.length = ab_nF ci)
    (hfin : (ab_fld ci j).2.2.1 = false ∨ ((ab_fld ci j).2.2.1 = true ∧ (ab_yn k).name = "<init>" ∧ (ab_cls ci).1 = ab_own k))
    (hlk : (Cond.fieldLink (ab_own k) idx (ab_cls ci).1 (ab_fld ci j).1 (ab_fld ci j).2.1) ∈ ab_TB ∨ ((Cond.fieldLinkNest (ab_own k) idx (ab_cls ci).1 (ab_fld ci j).1 (ab_fld ci j).2.1 "EventLedger") ∈ ab_NW ∧ (ab_fld ci j).2.2.1 = false))
    (hn : narrow (ab_ty ci j) v = v) (hfit : fits (ab_ty ci j) v = true) (hd : decode (ab_bts k) pc = .ok (.putfield idx, 3))
    (kk : ∀ (H1 : Heap) (f : Nat), va_at D ab_clsK (o, .inr (ci, fs.set j v)) H1 → H1.size = H.size → (∀ q : Nat, q ≠ o → H1[q]? = H[q]?) → W p l e R s m args below meth c H1 (locs ++ [⟨o, f⟩]) cells slots Q (F0 m (pc + 3) ls rest)) :
    W p l e R s m args below meth c H locs cells slots Q (F0 m pc ls (v :: .ref o :: rest)) := by
  have hts := C.2.2.2.2.1
  have hK := C.2.2.2.2.2.2.2.2.2.2.1
  have hc := ab_clsK_at hc10
  have hin := ab_lays hc10
  have hap := va_apart (own := ab_own k) hts hin (ab_ty ci) (ab_tys_ok hc10) (ab_nms_ok hc10) hK hc
  obtain ⟨r, h1, cell, q1, q2, q3, q4⟩ := hat
  have hr : r = ((ab_cls ci).1, ab_T ci, ab_nF ci) := Option.some.inj (h1.symm.trans hc)
  subst hr
  obtain ⟨hS, hfc, kC, hkC, hkind⟩ := hK.1 ci _ hc
  obtain ⟨cf, kf, fi, f, hi, hsl⟩ := hS j hj
  have hty := ab_tys_ok hc10 j hj
  have hst := (u_facts hfc hkC (u_lays hts hin hj) hi).1
  have fin : ∀ (H' : Heap), H'[o]? = some (cell.setSlot f.slot v) → H'.size = H.size → (∀ q, q ≠ o → H'[q]? = H[q]?) → W p l e R s m args below meth c H' (locs ++ [⟨o, f.slot⟩]) cells slots Q (F0 m (pc + 3) ls rest) := by
    intro H' e1 e2 e3
    refine kk H' f.slot ⟨_, hc, t_OB.to (V := updV (vp_V fs) j v) ⟨cell.setSlot (D.2 ci j) v, by rw [hsl] at e1; exact e1, q2, q3, t_set q4 hap hj v⟩ (fun i _ => vp_updV_set (by rw [hfl]; exact hj) v i)⟩ e2 e3
  have hlay := hts _ (hin _ (u_in_lay hj))
  rcases hfin with hfin | ⟨hfin, hini, hown2⟩
  · unfold u_lay at hlay
    rw [if_neg (show ¬ (ab_T ci j).2.2.2 = true by show ¬ (ab_fld ci j).2.2.1 = true; rw [hfin]; decide)] at hlay
    have h6 := u_store hfc hkC hkind hlay hi hty hn hfit
    rcases hlk with hlk | ⟨hlk, -⟩
    · exact W.putK C.1 C.2.1 (f := f) ⟨C.2.2.2.1, hts _ hlk, ⟨_, _, _, hi⟩, hst⟩ (by rw [q2]; exact h6) q1 q3 (by rw [hsl]; exact k2_hasslot (q4 j hj)) rfl rfl hd fin
    · exact va_WputK C.1 C.2.1 C.2.2.2.1 (va_Nw.use rfl (C.2.2.2.2.2.1.1 _ hlk)) hi hst (by rw [q2]; exact h6) q1 q3 (by rw [hsl]; exact k2_hasslot (q4 j hj)) rfl rfl hd fin
  · rcases hlk with hlk | ⟨-, hlk⟩
    · have hlay2 := hlay
      unfold u_lay at hlay
      rw [if_pos (show (ab_T ci j).2.2.2 = true from hfin)] at hlay
      have hcf : m.cls = cf := by
        obtain ⟨_, _, c', _, _, _, -, -, hf', -, -, -, hown3, -⟩ := Cond.laysFinal_spec hlay
        have e1 : c' = cf := by have := hi.symm.trans hf'; simp at this; exact this.1.symm
        have hown4 : s.vm.findClass (ab_own k) = some c' := by rw [← hown2]; exact hown3
        rw [← e1]; exact Option.some.inj (C.2.2.2.1.symm.trans hown4)
      have h6 := u_fits hfc hkC hkind (Or.inr hlay) hi hty hn hfit
      exact W.putFinK C.1 C.2.1 C.2.2.2.1 (hts _ hlk) hi hst hcf (C.2.2.2.2.2.2.1 hini) (by rw [q2]; exact h6) q1 q3 (by rw [hsl]; exact k2_hasslot (q4 j hj)) rfl rfl hd fin
    · rw [hfin] at hlk; cases hlk
theorem ab_p38 {i a nx : Nat} {b : Int} {L : ab_F} {st : List ab_V} {w : ab_W} {x v : Int} (C : ab_Cx D cA bnd aS SL xs k p R s m args meth c) (ho : ab_nth (ab_cod k) i = some (38, a, b, nx)) (hx : (ab_kd x).1 = b ∧ 0 ≤ x ∧ x < w.1)  (kk : ab_WW p l e R s m args below meth c Q D cA bnd aS SL xs K0 S0 k nx L st (w.1, w.2.1, (ab_up w.2.2.1 x a v), w.2.2.2)) : ab_WW p l e R s m args below meth c Q D cA bnd aS SL xs K0 S0 k i L ((0, v) :: (2, x) :: st) w := by
  intro H locs ls hw hS hl
  obtain ⟨hd, hsc, hp⟩ := ab_dec1 ho (by decide) rfl rfl
  simp only [Bool.and_eq_true, decide_eq_true_eq] at hsc
  obtain ⟨⟨⟨⟨hfB, hty⟩, hb0⟩, hnf⟩, hlk⟩ := hsc
  simp only [ab_fB, Bool.and_eq_true] at hfB
  obtain ⟨⟨hc10, haF⟩, htg⟩ := hfB
  have hc10 : b.toNat < 10 := ab_blt hc10
  have haF : a < ab_nF b.toNat := ab_blt haF
  have hat := hw.1 x hx.2.1 hx.2.2
  have hkd : (ab_kd x).1 = (b.toNat : Int) := by rw [hx.1]; omega
  rw [ab_ce_ob (c := b.toNat) hkd hc10] at hat
  show W p l e R s m args below meth c H locs _ _ Q (F0 m (ab_pc k i) ls (.int (Int32.ofInt v) :: .ref (ab_ad bnd aS x) :: st.map (ab_cv (ab_ad bnd aS))))
  refine ab_put C hc10 haF hat (ab_fs_len _ _ _ _ _) (Or.inl (by simpa using hnf)) ?_ (by rw [hty]; rfl) (by rw [hty]; rfl) hd (fun H1 f hat1 hz hoff => ?_)
  · rcases ab_lk_ok (ab_nw_ok ho (List.mem_singleton.mpr rfl)) with ⟨-, hlk⟩ | ⟨hnest, hlk⟩
    · exact Or.inl hlk
    · exact Or.inr ⟨hlk, by simpa using hnf⟩
  · have hw1 : ab_HW D cA bnd aS SL xs (w.1, w.2.1, (ab_up w.2.2.1 x a v), w.2.2.2) H1 := by
      refine ab_hw_set hw hx.2.1 hz hoff ?_ (fun q hq => ab_up_ne hq) (fun q hq => rfl)
      rw [ab_ce_ob (c := b.toNat) hkd hc10]
      have hset := ab_fs_set (ad := ab_ad bnd aS) (g := w.2.2.1) (r := w.2.2.2) (g' := (ab_up w.2.2.1 x a v)) (r' := w.2.2.2) (c := b.toNat) (a := x) (j := a) (fun q hq => ab_up_k (by omega)) (fun q hq => rfl)
      rw [← hset]
      have h2 : (ab_fld b.toNat a).2.2.2 = 0 ∨ (ab_fld b.toNat a).2.2.2 = 3 := by simpa using htg
      have h3 : ab_fv (ab_ad bnd aS) (ab_fld b.toNat a).2.2.2 (ab_up w.2.2.1 x a v x a) (w.2.2.2 x a) = .int (Int32.ofInt v) := by
        rw [ab_up_at]
        rcases h2 with h2 | h2 <;> rw [h2] <;> rfl
      rw [h3]
      exact hat1
    have hba : bnd ≤ ab_ad bnd aS x := by rw [ab_ad_nn hx.2.1]; omega
    have kk := kk H1 _ ls hw1 (ab_S_put (j := f) hS hz hoff hba) hl
    rwa [hp] at kk
theorem ab_p39 {i a nx : Nat} {b : Int} {L : ab_F} {st : List ab_V} {w : ab_W} {x v : Int} (C : ab_Cx D cA bnd aS SL xs k p R s m args meth c) (ho : ab_nth (ab_cod k) i = some (39, a, b, nx)) (hx : (ab_kd x).1 = b ∧ 0 ≤ x ∧ x < w.1) (hv : v = 0 ∨ v = 1) (kk : ab_WW p l e R s m args below meth c Q D cA bnd aS SL xs K0 S0 k nx L st (w.1, w.2.1, (ab_up w.2.2.1 x a v), w.2.2.2)) : ab_WW p l e R s m args below meth c Q D cA bnd aS SL xs K0 S0 k i L ((0, v) :: (2, x) :: st) w := by
  intro H locs ls hw hS hl
  obtain ⟨hd, hsc, hp⟩ := ab_dec1 ho (by decide) rfl rfl
  simp only [Bool.and_eq_true, decide_eq_true_eq] at hsc
  obtain ⟨⟨⟨⟨hfB, hty⟩, hb0⟩, hnf⟩, hlk⟩ := hsc
  simp only [ab_fB, Bool.and_eq_true] at hfB
  obtain ⟨⟨hc10, haF⟩, htg⟩ := hfB
  have hc10 : b.toNat < 10 := ab_blt hc10
  have haF : a < ab_nF b.toNat := ab_blt haF
  have hat := hw.1 x hx.2.1 hx.2.2
  have hkd : (ab_kd x).1 = (b.toNat : Int) := by rw [hx.1]; omega
  rw [ab_ce_ob (c := b.toNat) hkd hc10] at hat
  show W p l e R s m args below meth c H locs _ _ Q (F0 m (ab_pc k i) ls (.int (Int32.ofInt v) :: .ref (ab_ad bnd aS x) :: st.map (ab_cv (ab_ad bnd aS))))
  refine ab_put C hc10 haF hat (ab_fs_len _ _ _ _ _) (Or.inl (by simpa using hnf)) ?_ (by rw [hty]; rcases hv with rfl | rfl <;> rfl) (by rw [hty]; rcases hv with rfl | rfl <;> rfl) hd (fun H1 f hat1 hz hoff => ?_)
  · rcases ab_lk_ok (ab_nw_ok ho (List.mem_singleton.mpr rfl)) with ⟨-, hlk⟩ | ⟨hnest, hlk⟩
    · exact Or.inl hlk
    · exact Or.inr ⟨hlk, by simpa using hnf⟩
  · have hw1 : ab_HW D cA bnd aS SL xs (w.1, w.2.1, (ab_up w.2.2.1 x a v), w.2.2.2) H1 := by
      refine ab_hw_set hw hx.2.1 hz hoff ?_ (fun q hq => ab_up_ne hq) (fun q hq => rfl)
      rw [ab_ce_ob (c := b.toNat) hkd hc10]
      have hset := ab_fs_set (ad := ab_ad bnd aS) (g := w.2.2.1) (r := w.2.2.2) (g' := (ab_up w.2.2.1 x a v)) (r' := w.2.2.2) (c := b.toNat) (a := x) (j := a) (fun q hq => ab_up_k (by omega)) (fun q hq => rfl)
      rw [← hset]
      have h2 : (ab_fld b.toNat a).2.2.2 = 3 := by simpa using htg
      have h3 : ab_fv (ab_ad bnd aS) (ab_fld b.toNat a).2.2.2 (ab_up w.2.2.1 x a v x a) (w.2.2.2 x a) = .int (Int32.ofInt v) := by
        rw [ab_up_at, h2]; rfl
      rw [h3]
      exact hat1
    have hba : bnd ≤ ab_ad bnd aS x := by rw [ab_ad_nn hx.2.1]; omega
    have kk := kk H1 _ ls hw1 (ab_S_put (j := f) hS hz hoff hba) hl
    rwa [hp] at kk
theorem ab_p40 {i a nx : Nat} {b : Int} {L : ab_F} {st : List ab_V} {w : ab_W} {x v : Int} (C : ab_Cx D cA bnd aS SL xs k p R s m args meth c) (ho : ab_nth (ab_cod k) i = some (40, a, b, nx)) (hx : (ab_kd x).1 = b ∧ 0 ≤ x ∧ x < w.1) (hv : v ≠ -1) (kk : ab_WW p l e R s m args below meth c Q D cA bnd aS SL xs K0 S0 k nx L st (w.1, w.2.1, w.2.2.1, (ab_up w.2.2.2 x a v))) : ab_WW p l e R s m args below meth c Q D cA bnd aS SL xs K0 S0 k i L ((2, v) :: (2, x) :: st) w := by
  intro H locs ls hw hS hl
  obtain ⟨hd, hsc, hp⟩ := ab_dec1 ho (by decide) rfl rfl
  simp only [Bool.and_eq_true, decide_eq_true_eq] at hsc
  obtain ⟨⟨⟨⟨hfB, hty⟩, hb0⟩, hnf⟩, hlk⟩ := hsc
  simp only [ab_fB, Bool.and_eq_true] at hfB
  obtain ⟨⟨hc10, haF⟩, htg⟩ := hfB
  have hc10 : b.toNat < 10 := ab_blt hc10
  have haF : a < ab_nF b.toNat := ab_blt haF
  have hat := hw.1 x hx.2.1 hx.2.2
  have hkd : (ab_kd x).1 = (b.toNat : Int) := by rw [hx.1]; omega
  rw [ab_ce_ob (c := b.toNat) hkd hc10] at hat
  show W p l e R s m args below meth c H locs _ _ Q (F0 m (ab_pc k i) ls (.ref (ab_ad bnd aS v) :: .ref (ab_ad bnd aS x) :: st.map (ab_cv (ab_ad bnd aS))))
  refine ab_put C hc10 haF hat (ab_fs_len _ _ _ _ _) (Or.inl (by simpa using hnf)) ?_ (ab_narr hty) (ab_fitr hty) hd (fun H1 f hat1 hz hoff => ?_)
  · rcases ab_lk_ok (ab_nw_ok ho (List.mem_singleton.mpr rfl)) with ⟨-, hlk⟩ | ⟨hnest, hlk⟩
    · exact Or.inl hlk
    · exact Or.inr ⟨hlk, by simpa using hnf⟩
  · have hw1 : ab_HW D cA bnd aS SL xs (w.1, w.2.1, w.2.2.1, (ab_up w.2.2.2 x a v)) H1 := by
      refine ab_hw_set hw hx.2.1 hz hoff ?_ (fun q hq => rfl) (fun q hq => ab_up_ne hq)
      rw [ab_ce_ob (c := b.toNat) hkd hc10]
      have hset := ab_fs_set (ad := ab_ad bnd aS) (g := w.2.2.1) (r := w.2.2.2) (g' := w.2.2.1) (r' := (ab_up w.2.2.2 x a v)) (c := b.toNat) (a := x) (j := a) (fun q hq => rfl) (fun q hq => ab_up_k (by omega))
      rw [← hset]
      have h2 : (ab_fld b.toNat a).2.2.2 = 2 := by simpa using htg
      have h3 : ab_fv (ab_ad bnd aS) (ab_fld b.toNat a).2.2.2 (w.2.2.1 x a) (ab_up w.2.2.2 x a v x a) = .ref (ab_ad bnd aS v) := by
        rw [ab_up_at, h2]; simp [ab_fv, hv]
      rw [h3]
      exact hat1
    have hba : bnd ≤ ab_ad bnd aS x := by rw [ab_ad_nn hx.2.1]; omega
    have kk := kk H1 _ ls hw1 (ab_S_put (j := f) hS hz hoff hba) hl
    rwa [hp] at kk
theorem ab_p41 {i a nx : Nat} {b : Int} {L : ab_F} {st : List ab_V} {w : ab_W} {x v : Int} (C : ab_Cx D cA bnd aS SL xs k p R s m args meth c) (ho : ab_nth (ab_cod k) i = some (41, a, b, nx)) (hx : (ab_kd x).1 = b ∧ 0 ≤ x ∧ x < w.1) (hv : v ≠ -1) (kk : ab_WW p l e R s m args below meth c Q D cA bnd aS SL xs K0 S0 k nx L st (w.1, w.2.1, w.2.2.1, (ab_up w.2.2.2 x a v))) : ab_WW p l e R s m args below meth c Q D cA bnd aS SL xs K0 S0 k i L ((2, v) :: (2, x) :: st) w := by
  intro H locs ls hw hS hl
  obtain ⟨hd, hsc, hp⟩ := ab_dec1 ho (by decide) rfl rfl
  simp only [Bool.and_eq_true, decide_eq_true_eq] at hsc
  obtain ⟨⟨⟨⟨⟨⟨⟨hfB, hty⟩, hb0⟩, hfi⟩, hknd⟩, hk244⟩, hcli⟩, hfl0⟩ := hsc
  simp only [ab_fB, Bool.and_eq_true] at hfB
  obtain ⟨⟨hc10, haF⟩, htg⟩ := hfB
  have hc10 : b.toNat < 10 := ab_blt hc10
  have haF : a < ab_nF b.toNat := ab_blt haF
  have hat := hw.1 x hx.2.1 hx.2.2
  have hkd : (ab_kd x).1 = (b.toNat : Int) := by rw [hx.1]; omega
  rw [ab_ce_ob (c := b.toNat) hkd hc10] at hat
  show W p l e R s m args below meth c H locs _ _ Q (F0 m (ab_pc k i) ls (.ref (ab_ad bnd aS v) :: .ref (ab_ad bnd aS x) :: st.map (ab_cv (ab_ad bnd aS))))
  refine ab_put C hc10 haF hat (ab_fs_len _ _ _ _ _) (Or.inr ⟨hfi, ab_ini_ok (ab_blt hk244) (Nat.eq_of_beq_eq_true hknd), ab_own_ok (ab_blt hk244) (Nat.eq_of_beq_eq_true hcli) hc10⟩) ?_ (ab_narr hty) (ab_fitr hty) hd (fun H1 f hat1 hz hoff => ?_)
  · rcases ab_lk_ok (ab_nw_ok ho (List.mem_singleton.mpr rfl)) with ⟨-, hlk⟩ | ⟨hnest, hlk⟩
    · exact Or.inl hlk
    · exact absurd (Nat.eq_of_beq_eq_true hfl0) hnest
  · have hw1 : ab_HW D cA bnd aS SL xs (w.1, w.2.1, w.2.2.1, (ab_up w.2.2.2 x a v)) H1 := by
      refine ab_hw_set hw hx.2.1 hz hoff ?_ (fun q hq => rfl) (fun q hq => ab_up_ne hq)
      rw [ab_ce_ob (c := b.toNat) hkd hc10]
      have hset := ab_fs_set (ad := ab_ad bnd aS) (g := w.2.2.1) (r := w.2.2.2) (g' := w.2.2.1) (r' := (ab_up w.2.2.2 x a v)) (c := b.toNat) (a := x) (j := a) (fun q hq => rfl) (fun q hq => ab_up_k (by omega))
      rw [← hset]
      have h2 : (ab_fld b.toNat a).2.2.2 = 2 := by simpa using htg
      have h3 : ab_fv (ab_ad bnd aS) (ab_fld b.toNat a).2.2.2 (w.2.2.1 x a) (ab_up w.2.2.2 x a v x a) = .ref (ab_ad bnd aS v) := by
        rw [ab_up_at, h2]; simp [ab_fv, hv]
      rw [h3]
      exact hat1
    have hba : bnd ≤ ab_ad bnd aS x := by rw [ab_ad_nn hx.2.1]; omega
    have kk := kk H1 _ ls hw1 (ab_S_put (j := f) hS hz hoff hba) hl
    rwa [hp] at kk
end AbHeap
end
section
/-! THE ABSTRACT MACHINE IS SOUND, part 4: arrays, what is made, branches, the statics. -/
section AbArr
variable {p : Program} {l : Launch} {e : Env} {R : Room} {s : State} {m : MethodId} {args : Array Value} {below : List Frame} {meth : Method} {c : Code} {Q : State → Prop} {D : va_G} {cA : Nat → ClassId} {bnd : Nat} {aS : Int → Nat} {SL : Nat} {xs : Nat → Int32} {K0 : Int} {S0 : Nat} {k : Nat}
theorem ab_p43 {i a nx : Nat} {b : Int} {L : ab_F} {st : List ab_V} {w : ab_W} {x j : Int} (C : ab_Cx D cA bnd aS SL xs k p R s m args meth c) (ho : ab_nth (ab_cod k) i = some (43, a, b, nx)) (hx : (ab_kd x).1 = 100 ∧ 0 ≤ x ∧ x < w.1) (hj : 0 ≤ j ∧ j < (ab_kd x).2) (kk : ab_WW p l e R s m args below meth c Q D cA bnd aS SL xs K0 S0 k nx L ((0, w.2.2.1 x j) :: st) w) : ab_WW p l e R s m args below meth c Q D cA bnd aS SL xs K0 S0 k i L ((0, j) :: (2, x) :: st) w := by
  intro H locs ls hw hS hl
  obtain ⟨hd, hsc, hp⟩ := ab_dec1 ho (by decide) rfl rfl
  have kk := kk H locs ls hw hS hl
  rw [hp] at kk
  have hat := hw.1 x hx.2.1 hx.2.2
  rw [ab_ce_ar (t := 0) (by rw [hx.1]; rfl) (by decide)] at hat
  obtain ⟨e1, e2⟩ := ab_ix hj.1 hj.2 (ab_kd_in (a := x)).2.2.1
  refine va_iald (D := D) (cl := ab_clsK) (tys := ab_tys cA) C.1 C.2.1 C.2.2.2.2.2.2.2.2.2.2.1 (ab_P1 hat) 0 0 rfl rfl e2 hd ?_
  exact W.eq (by simp only [e1, Int.toNat_of_nonneg hj.1, List.map_cons, ab_cv]) kk
theorem ab_p44 {i a nx : Nat} {b : Int} {L : ab_F} {st : List ab_V} {w : ab_W} {x j : Int} (C : ab_Cx D cA bnd aS SL xs k p R s m args meth c) (ho : ab_nth (ab_cod k) i = some (44, a, b, nx)) (hx : (ab_kd x).1 = 101 ∧ 0 ≤ x ∧ x < w.1) (hj : 0 ≤ j ∧ j < (ab_kd x).2) (kk : ab_WW p l e R s m args below meth c Q D cA bnd aS SL xs K0 S0 k nx L ((0, w.2.2.1 x j) :: st) w) : ab_WW p l e R s m args below meth c Q D cA bnd aS SL xs K0 S0 k i L ((0, j) :: (2, x) :: st) w := by
  intro H locs ls hw hS hl
  obtain ⟨hd, hsc, hp⟩ := ab_dec1 ho (by decide) rfl rfl
  have kk := kk H locs ls hw hS hl
  rw [hp] at kk
  have hat := hw.1 x hx.2.1 hx.2.2
  rw [ab_ce_ar (t := 1) (by rw [hx.1]; rfl) (by decide)] at hat
  obtain ⟨e1, e2⟩ := ab_ix hj.1 hj.2 (ab_kd_in (a := x)).2.2.1
  refine va_bald (D := D) (cl := ab_clsK) (tys := ab_tys cA) C.1 C.2.1 C.2.2.2.2.2.2.2.2.2.2.1 (ab_P1 hat) 0 1 rfl rfl e2 hd ?_
  exact W.eq (by simp only [e1, Int.toNat_of_nonneg hj.1, List.map_cons, ab_cv]) kk
theorem ab_p45 {i a nx : Nat} {b : Int} {L : ab_F} {st : List ab_V} {w : ab_W} {x j : Int} (C : ab_Cx D cA bnd aS SL xs k p R s m args meth c) (ho : ab_nth (ab_cod k) i = some (45, a, b, nx)) (hx : (ab_kd x).1 = 102 ∧ 0 ≤ x ∧ x < w.1) (hj : 0 ≤ j ∧ j < (ab_kd x).2) (kk : ab_WW p l e R s m args below meth c Q D cA bnd aS SL xs K0 S0 k nx L ((0, w.2.2.1 x j) :: st) w) : ab_WW p l e R s m args below meth c Q D cA bnd aS SL xs K0 S0 k i L ((0, j) :: (2, x) :: st) w := by
  intro H locs ls hw hS hl
  obtain ⟨hd, hsc, hp⟩ := ab_dec1 ho (by decide) rfl rfl
  have kk := kk H locs ls hw hS hl
  rw [hp] at kk
  have hat := hw.1 x hx.2.1 hx.2.2
  rw [ab_ce_ar (t := 2) (by rw [hx.1]; rfl) (by decide)] at hat
  obtain ⟨e1, e2⟩ := ab_ix hj.1 hj.2 (ab_kd_in (a := x)).2.2.1
  refine va_zald (D := D) (cl := ab_clsK) (tys := ab_tys cA) C.1 C.2.1 C.2.2.2.2.2.2.2.2.2.2.1 (ab_P1 hat) 0 2 rfl rfl e2 hd ?_
  exact W.eq (by simp only [e1, Int.toNat_of_nonneg hj.1, List.map_cons, ab_cv]) kk
theorem ab_p46 {i a nx : Nat} {b : Int} {L : ab_F} {st : List ab_V} {w : ab_W} {x j : Int} (C : ab_Cx D cA bnd aS SL xs k p R s m args meth c) (ho : ab_nth (ab_cod k) i = some (46, a, b, nx)) (hx : (ab_kd x).1 = 103 ∧ 0 ≤ x ∧ x < w.1) (hj : 0 ≤ j ∧ j < (ab_kd x).2) (kk : ab_WW p l e R s m args below meth c Q D cA bnd aS SL xs K0 S0 k nx L ((1, w.2.2.1 x j) :: st) w) : ab_WW p l e R s m args below meth c Q D cA bnd aS SL xs K0 S0 k i L ((0, j) :: (2, x) :: st) w := by
  intro H locs ls hw hS hl
  obtain ⟨hd, hsc, hp⟩ := ab_dec1 ho (by decide) rfl rfl
  have kk := kk H locs ls hw hS hl
  rw [hp] at kk
  have hat := hw.1 x hx.2.1 hx.2.2
  rw [ab_ce_al hx.1] at hat
  obtain ⟨e1, e2⟩ := ab_ix hj.1 hj.2 (ab_kd_in (a := x)).2.2.1
  refine va_lald (D := D) (cl := ab_clsK) (tys := ab_tys cA) C.1 C.2.1 C.2.2.2.2.2.2.2.2.2.2.1 (ab_P1 hat) 0 3 rfl rfl e2 hd ?_
  exact W.eq (by simp only [e1, Int.toNat_of_nonneg hj.1, List.map_cons, ab_cv]) kk
theorem ab_p47 {i a nx : Nat} {b : Int} {L : ab_F} {st : List ab_V} {w : ab_W} {x j : Int} (C : ab_Cx D cA bnd aS SL xs k p R s m args meth c) (ho : ab_nth (ab_cod k) i = some (47, a, b, nx)) (hx : (ab_kd x).1 = 104 ∧ 0 ≤ x ∧ x < w.1) (hj : 0 ≤ j ∧ j < (ab_kd x).2) (hn : w.2.2.2 x j ≠ -1) (kk : ab_WW p l e R s m args below meth c Q D cA bnd aS SL xs K0 S0 k nx L ((2, w.2.2.2 x j) :: st) w) : ab_WW p l e R s m args below meth c Q D cA bnd aS SL xs K0 S0 k i L ((0, j) :: (2, x) :: st) w := by
  intro H locs ls hw hS hl
  obtain ⟨hd, hsc, hp⟩ := ab_dec1 ho (by decide) rfl rfl
  have kk := kk H locs ls hw hS hl
  rw [hp] at kk
  have hat := hw.1 x hx.2.1 hx.2.2
  rw [ab_ce_aq hx.1] at hat
  obtain ⟨e1, e2⟩ := ab_ix hj.1 hj.2 (ab_kd_in (a := x)).2.2.1
  refine va_aldq (D := D) (cl := ab_clsK) (tys := ab_tys cA) C.1 C.2.1 C.2.2.2.2.2.2.2.2.2.2.1 (ab_P1 hat) 0 4 rfl rfl e2 hd ?_
  exact W.eq (by simp only [e1, Int.toNat_of_nonneg hj.1, List.map_cons, ab_cv, if_neg hn, va_rf]) kk
theorem ab_p48 {i a nx : Nat} {b : Int} {L : ab_F} {st : List ab_V} {w : ab_W} {x j v : Int} (C : ab_Cx D cA bnd aS SL xs k p R s m args meth c) (ho : ab_nth (ab_cod k) i = some (48, a, b, nx)) (hx : (ab_kd x).1 = 100 ∧ 0 ≤ x ∧ x < w.1) (hj : 0 ≤ j ∧ j < (ab_kd x).2)  (kk : ab_WW p l e R s m args below meth c Q D cA bnd aS SL xs K0 S0 k nx L st (w.1, w.2.1, ab_up w.2.2.1 x j v, w.2.2.2)) : ab_WW p l e R s m args below meth c Q D cA bnd aS SL xs K0 S0 k i L ((0, v) :: (0, j) :: (2, x) :: st) w := by
  intro H locs ls hw hS hl
  obtain ⟨hd, hsc, hp⟩ := ab_dec1 ho (by decide) rfl rfl
  have hat := hw.1 x hx.2.1 hx.2.2
  rw [ab_ce_ar (t := 0) (by rw [hx.1]; rfl) (by decide)] at hat
  obtain ⟨e1, e2⟩ := ab_ix hj.1 hj.2 (ab_kd_in (a := x)).2.2.1
  refine W.iast C.1 C.2.1 hat ((C.2.2.2.2.2.2.2.2.2.2.1.2 0 _ rfl).1 _ (fun i => .int (Int32.ofInt (w.2.2.1 x i)))) (fun q => by cases q) (by show ¬ (_ < 0 ∨ (arrV _ _ _).slots.size ≤ _); rw [arrV_size]; exact e2) rfl rfl hd fun H1 ee z oq => ?_
  have hw1 : ab_HW D cA bnd aS SL xs (w.1, w.2.1, ab_up w.2.2.1 x j v, w.2.2.2) H1 := by
    refine ab_hw_set hw hx.2.1 z oq ?_ (fun q hq => ab_up_ne hq) (fun q hq => rfl)
    rw [ab_ce_ar (t := 0) (by rw [hx.1]; rfl) (by decide)]
    show H1[_]? = some (vp_cell _ _)
    rw [ee]
    rw [vp_cell_i, vp_cell_i, arrV_store]
    congr 2
    funext q
    by_cases hq : q = (Int32.ofInt j).toNatClampNeg
    · subst hq
      simp [updV, ab_up, e1, Int.toNat_of_nonneg hj.1]
    · have hq2 : ((q : Nat) : Int) ≠ j := by rw [e1] at hq; omega
      simp [updV, hq, ab_up, hq2]
  have hba : bnd ≤ ab_ad bnd aS x := by rw [ab_ad_nn hx.2.1]; omega
  have kk := kk H1 (locs ++ [⟨ab_ad bnd aS x, (Int32.ofInt j).toNatClampNeg⟩]) ls hw1 (ab_S_put hS z oq hba) hl
  rwa [hp] at kk
theorem ab_narb (v : Int) : narrow .byte (.int (Int32.ofInt v)) = .int (Int32.ofInt (ab_i2b v)) := by
  rw [ab_i2b, Int32.ofInt_toInt]
  rfl
theorem ab_p49 {i a nx : Nat} {b : Int} {L : ab_F} {st : List ab_V} {w : ab_W} {x j v : Int} (C : ab_Cx D cA bnd aS SL xs k p R s m args meth c) (ho : ab_nth (ab_cod k) i = some (49, a, b, nx)) (hx : (ab_kd x).1 = 101 ∧ 0 ≤ x ∧ x < w.1) (hj : 0 ≤ j ∧ j < (ab_kd x).2)  (kk : ab_WW p l e R s m args below meth c Q D cA bnd aS SL xs K0 S0 k nx L st (w.1, w.2.1, ab_up w.2.2.1 x j (ab_i2b v), w.2.2.2)) : ab_WW p l e R s m args below meth c Q D cA bnd aS SL xs K0 S0 k i L ((0, v) :: (0, j) :: (2, x) :: st) w := by
  intro H locs ls hw hS hl
  obtain ⟨hd, hsc, hp⟩ := ab_dec1 ho (by decide) rfl rfl
  have hat := hw.1 x hx.2.1 hx.2.2
  rw [ab_ce_ar (t := 1) (by rw [hx.1]; rfl) (by decide)] at hat
  obtain ⟨e1, e2⟩ := ab_ix hj.1 hj.2 (ab_kd_in (a := x)).2.2.1
  refine W.bast C.1 C.2.1 hat ((C.2.2.2.2.2.2.2.2.2.2.1.2 1 _ rfl).1 _ (fun i => .int (Int32.ofInt (w.2.2.1 x i)))) (fun q => by cases q) (by show ¬ (_ < 0 ∨ (arrV _ _ _).slots.size ≤ _); rw [arrV_size]; exact e2) rfl rfl hd fun H1 ee z oq => ?_
  have hw1 : ab_HW D cA bnd aS SL xs (w.1, w.2.1, ab_up w.2.2.1 x j (ab_i2b v), w.2.2.2) H1 := by
    refine ab_hw_set hw hx.2.1 z oq ?_ (fun q hq => ab_up_ne hq) (fun q hq => rfl)
    rw [ab_ce_ar (t := 1) (by rw [hx.1]; rfl) (by decide)]
    show H1[_]? = some (vp_cell _ _)
    rw [ee]
    rw [vp_cell_i, vp_cell_i, arrV_store]
    congr 2
    funext q
    by_cases hq : q = (Int32.ofInt j).toNatClampNeg
    · subst hq
      simp [updV, ab_up, e1, Int.toNat_of_nonneg hj.1, ab_narb]
    · have hq2 : ((q : Nat) : Int) ≠ j := by rw [e1] at hq; omega
      simp [updV, hq, ab_up, hq2]
  have hba : bnd ≤ ab_ad bnd aS x := by rw [ab_ad_nn hx.2.1]; omega
  have kk := kk H1 (locs ++ [⟨ab_ad bnd aS x, (Int32.ofInt j).toNatClampNeg⟩]) ls hw1 (ab_S_put hS z oq hba) hl
  rwa [hp] at kk
theorem ab_narz {v : Int} (h : v = 0 ∨ v = 1) : narrow .boolean (.int (Int32.ofInt v)) = .int (Int32.ofInt v) := by
  rcases h with rfl | rfl <;> rfl
theorem ab_p50 {i a nx : Nat} {b : Int} {L : ab_F} {st : List ab_V} {w : ab_W} {x j v : Int} (C : ab_Cx D cA bnd aS SL xs k p R s m args meth c) (ho : ab_nth (ab_cod k) i = some (50, a, b, nx)) (hx : (ab_kd x).1 = 102 ∧ 0 ≤ x ∧ x < w.1) (hj : 0 ≤ j ∧ j < (ab_kd x).2) (hv : v = 0 ∨ v = 1) (kk : ab_WW p l e R s m args below meth c Q D cA bnd aS SL xs K0 S0 k nx L st (w.1, w.2.1, ab_up w.2.2.1 x j v, w.2.2.2)) : ab_WW p l e R s m args below meth c Q D cA bnd aS SL xs K0 S0 k i L ((0, v) :: (0, j) :: (2, x) :: st) w := by
  intro H locs ls hw hS hl
  obtain ⟨hd, hsc, hp⟩ := ab_dec1 ho (by decide) rfl rfl
  have hat := hw.1 x hx.2.1 hx.2.2
  rw [ab_ce_ar (t := 2) (by rw [hx.1]; rfl) (by decide)] at hat
  obtain ⟨e1, e2⟩ := ab_ix hj.1 hj.2 (ab_kd_in (a := x)).2.2.1
  refine W.zast C.1 C.2.1 hat ((C.2.2.2.2.2.2.2.2.2.2.1.2 2 _ rfl).1 _ (fun i => .int (Int32.ofInt (w.2.2.1 x i)))) (fun q => by cases q) (by show ¬ (_ < 0 ∨ (arrV _ _ _).slots.size ≤ _); rw [arrV_size]; exact e2) rfl rfl hd fun H1 ee z oq => ?_
  have hw1 : ab_HW D cA bnd aS SL xs (w.1, w.2.1, ab_up w.2.2.1 x j v, w.2.2.2) H1 := by
    refine ab_hw_set hw hx.2.1 z oq ?_ (fun q hq => ab_up_ne hq) (fun q hq => rfl)
    rw [ab_ce_ar (t := 2) (by rw [hx.1]; rfl) (by decide)]
    show H1[_]? = some (vp_cell _ _)
    rw [ee]
    rw [vp_cell_i, vp_cell_i, arrV_store]
    congr 2
    funext q
    by_cases hq : q = (Int32.ofInt j).toNatClampNeg
    · subst hq
      simp [updV, ab_up, e1, Int.toNat_of_nonneg hj.1, ab_narz hv]
    · have hq2 : ((q : Nat) : Int) ≠ j := by rw [e1] at hq; omega
      simp [updV, hq, ab_up, hq2]
  have hba : bnd ≤ ab_ad bnd aS x := by rw [ab_ad_nn hx.2.1]; omega
  have kk := kk H1 (locs ++ [⟨ab_ad bnd aS x, (Int32.ofInt j).toNatClampNeg⟩]) ls hw1 (ab_S_put hS z oq hba) hl
  rwa [hp] at kk
theorem ab_p51 {i a nx : Nat} {b : Int} {L : ab_F} {st : List ab_V} {w : ab_W} {x j v : Int} (C : ab_Cx D cA bnd aS SL xs k p R s m args meth c) (ho : ab_nth (ab_cod k) i = some (51, a, b, nx)) (hx : (ab_kd x).1 = 103 ∧ 0 ≤ x ∧ x < w.1) (hj : 0 ≤ j ∧ j < (ab_kd x).2)  (kk : ab_WW p l e R s m args below meth c Q D cA bnd aS SL xs K0 S0 k nx L st (w.1, w.2.1, ab_up w.2.2.1 x j v, w.2.2.2)) : ab_WW p l e R s m args below meth c Q D cA bnd aS SL xs K0 S0 k i L ((1, v) :: (0, j) :: (2, x) :: st) w := by
  intro H locs ls hw hS hl
  obtain ⟨hd, hsc, hp⟩ := ab_dec1 ho (by decide) rfl rfl
  have hat := hw.1 x hx.2.1 hx.2.2
  rw [ab_ce_al hx.1] at hat
  obtain ⟨e1, e2⟩ := ab_ix hj.1 hj.2 (ab_kd_in (a := x)).2.2.1
  refine W.last C.1 C.2.1 hat ((C.2.2.2.2.2.2.2.2.2.2.1.2 3 _ rfl).1 _ (fun i => .long (Int64.ofInt (w.2.2.1 x i)))) (fun q => by cases q) (by show ¬ (_ < 0 ∨ (arrV _ _ _).slots.size ≤ _); rw [arrV_size]; exact e2) rfl rfl hd fun H1 ee z oq => ?_
  have hw1 : ab_HW D cA bnd aS SL xs (w.1, w.2.1, ab_up w.2.2.1 x j v, w.2.2.2) H1 := by
    refine ab_hw_set hw hx.2.1 z oq ?_ (fun q hq => ab_up_ne hq) (fun q hq => rfl)
    rw [ab_ce_al hx.1]
    show H1[_]? = some (vp_cell _ _)
    rw [ee]
    rw [vp_cell_l, vp_cell_l, arrV_store]
    congr 2
    funext q
    by_cases hq : q = (Int32.ofInt j).toNatClampNeg
    · subst hq
      simp [updV, ab_up, e1, Int.toNat_of_nonneg hj.1]
    · have hq2 : ((q : Nat) : Int) ≠ j := by rw [e1] at hq; omega
      simp [updV, hq, ab_up, hq2]
  have hba : bnd ≤ ab_ad bnd aS x := by rw [ab_ad_nn hx.2.1]; omega
  have kk := kk H1 (locs ++ [⟨ab_ad bnd aS x, (Int32.ofInt j).toNatClampNeg⟩]) ls hw1 (ab_S_put hS z oq hba) hl
  rwa [hp] at kk
theorem ab_p60 {i a nx : Nat} {b : Int} {L : ab_F} {st : List ab_V} {w : ab_W} {x j v : Int} (C : ab_Cx D cA bnd aS SL xs k p R s m args meth c) (ho : ab_nth (ab_cod k) i = some (60, a, b, nx)) (hx : (ab_kd x).1 = 104 ∧ 0 ≤ x ∧ x < w.1) (hj : 0 ≤ j ∧ j < (ab_kd x).2) (hv : (ab_kd v).1 = 5 ∧ 0 ≤ v ∧ v < w.1) (kk : ab_WW p l e R s m args below meth c Q D cA bnd aS SL xs K0 S0 k nx L st (w.1, w.2.1, w.2.2.1, ab_up w.2.2.2 x j v)) : ab_WW p l e R s m args below meth c Q D cA bnd aS SL xs K0 S0 k i L ((2, v) :: (0, j) :: (2, x) :: st) w := by
  intro H locs ls hw hS hl
  obtain ⟨hd, hsc, hp⟩ := ab_dec1 ho (by decide) rfl rfl
  have hat := hw.1 x hx.2.1 hx.2.2
  rw [ab_ce_aq hx.1] at hat
  have hat2 := hw.1 v hv.2.1 hv.2.2
  rw [ab_ce_ob (c := 5) hv.1 (by decide)] at hat2
  obtain ⟨e1, e2⟩ := ab_ix hj.1 hj.2 (ab_kd_in (a := x)).2.2.1
  have hlt : (Int32.ofInt j).toNatClampNeg < (ab_kd x).2.toNat := Nat.not_le.mp fun q => e2 (Or.inr q)
  obtain ⟨r', hr', cellV, g1, g2, g3, -⟩ := hat2
  have hr5 : r' = ((ab_cls 5).1, ab_T 5, ab_nF 5) := Option.some.inj (hr'.symm.trans (ab_clsK_at (c := 5) (by decide)))
  have hcls := (C.2.2.2.2.2.2.2.2.2.2.1.1 5 _ (ab_clsK_at (by decide))).2
  obtain ⟨kA, comp, k1, k2, k3, -⟩ := (C.2.2.2.2.2.2.2.2.2.2.1.2 4 _ rfl).2
  have hcomp : comp = D.1 5 := Option.some.inj (k3.symm.trans hcls.1)
  subst hcomp
  obtain ⟨kC, hkC, -⟩ := hcls.2
  refine W.aast C.1 C.2.1 hat (fun q h => by cases h) (fun h => by cases h) k1 k2 rfl hkC ⟨fun q => e2 (Or.inl q), by show _ < (arrV _ _ _).slots.size; rw [arrV_size]; exact hlt⟩ g1 (fun q h => by rw [g3] at h; cases h) (by rw [g2]; exact hkC) (by rw [g2]; exact va_assign hcls) rfl rfl hd fun H1 ee z oq => ?_
  have hw1 : ab_HW D cA bnd aS SL xs (w.1, w.2.1, w.2.2.1, ab_up w.2.2.2 x j v) H1 := by
    refine ab_hw_set hw hx.2.1 z oq ?_ (fun q hq => rfl) (fun q hq => ab_up_ne hq)
    rw [ab_ce_aq hx.1]
    show H1[_]? = some (vp_cell _ _)
    rw [ee]
    rw [vp_cell_q, vp_cell_q, arrV_store]
    congr 2
    funext q
    by_cases hq : q = (Int32.ofInt j).toNatClampNeg
    · subst hq
      have hv1 : v ≠ -1 := by omega
      simp [updV, ab_up, e1, Int.toNat_of_nonneg hj.1, hv1, va_rf]
    · have hq2 : ((q : Nat) : Int) ≠ j := by rw [e1] at hq; omega
      simp [updV, hq, ab_up, hq2]
  have hba : bnd ≤ ab_ad bnd aS x := by rw [ab_ad_nn hx.2.1]; omega
  have kk := kk H1 (locs ++ [⟨ab_ad bnd aS x, (Int32.ofInt j).toNatClampNeg⟩]) ls hw1 (ab_S_put hS z oq hba) hl
  rwa [hp] at kk
theorem ab_p61 {i a nx : Nat} {b : Int} {L : ab_F} {st : List ab_V} {w : ab_W} {x : Int} (C : ab_Cx D cA bnd aS SL xs k p R s m args meth c) (ho : ab_nth (ab_cod k) i = some (61, a, b, nx)) (hx : (ab_kd x).1 = 100 + (a : Int) ∧ 0 ≤ x ∧ x < w.1) (kk : ab_WW p l e R s m args below meth c Q D cA bnd aS SL xs K0 S0 k nx L ((0, (ab_kd x).2) :: st) w) : ab_WW p l e R s m args below meth c Q D cA bnd aS SL xs K0 S0 k i L ((2, x) :: st) w := by
  intro H locs ls hw hS hl
  obtain ⟨hd, hsc, hp⟩ := ab_dec1 ho (by decide) rfl rfl
  have kk := kk H locs ls hw hS hl
  rw [hp] at kk
  have ha4 : a < 4 := ab_blt hsc
  have hat := hw.1 x hx.2.1 hx.2.2
  have hv : Int32.ofNat (ab_kd x).2.toNat = Int32.ofInt (ab_kd x).2 := by
    rw [← Int32.ofInt_eq_ofNat, Int.toNat_of_nonneg (ab_kd_in (a := x)).2.1]
  by_cases h3 : a = 3
  · subst h3
    rw [ab_ce_al hx.1] at hat
    exact va_alen (D := D) (cl := ab_clsK) (tys := ab_tys cA) C.1 C.2.1 C.2.2.2.2.2.2.2.2.2.2.1 (ab_P1 hat) 0 3 rfl rfl hv hd kk
  · rw [ab_ce_ar (t := a) hx.1 (by omega)] at hat
    have ht : ∃ ty, (ab_tys cA)[a]? = some (cA a, ty) := by
      match a, (show a < 3 by omega) with
      | 0, _ => exact ⟨_, rfl⟩
      | 1, _ => exact ⟨_, rfl⟩
      | 2, _ => exact ⟨_, rfl⟩
    obtain ⟨ty, ht⟩ := ht
    exact va_alen (D := D) (cl := ab_clsK) (tys := ab_tys cA) C.1 C.2.1 C.2.2.2.2.2.2.2.2.2.2.1 (ab_P1 hat) 0 a rfl ht hv hd kk
theorem ab_defC : (List.range 10).all (fun c => (List.range (ab_nF c)).all (fun k => decide (defaultValue (ab_ty c k) = ab_fv (fun _ => 0) (ab_fld c k).2.2.2 0 (-1)))) = true := by decide +kernel
theorem ab_fv0 (ad : Int → Nat) (t : Nat) : ab_fv ad t 0 (-1) = ab_fv (fun _ => 0) t 0 (-1) := by
  unfold ab_fv
  split <;> rfl
theorem ab_def_ok {c j : Nat} (hc : c < 10) (hj : j < ab_nF c) (ad : Int → Nat) (g r : ab_H) (K : Int) : defaultValue (ab_ty c j) = vp_V (ab_fs ad (ab_new g K 0) (ab_new r K (-1)) c K) j := by
  have h1 := List.all_eq_true.mp (List.all_eq_true.mp ab_defC c (List.mem_range.mpr hc)) j (List.mem_range.mpr hj)
  rw [of_decide_eq_true h1]
  have h2 := ab_fs_at (ad := ad) (g := ab_new g K 0) (r := ab_new r K (-1)) (c := c) (a := K) hj
  unfold vp_V
  rw [List.getD_eq_getElem?_getD, h2, ab_new_at, ab_new_at, ab_fv0]
  rfl
/-- a cell more, behind all others -/
theorem ab_hw_new {w : ab_W} {H H1 : Heap} {n : Nat} (hw : ab_HW D cA bnd aS SL xs w H) (h186 : w.1 < 186) (z : H1.size = bnd + w.1.toNat + 1) (o1 : ∀ q : Nat, q < bnd + w.1.toNat → H1[q]? = H[q]?)
    (hon : va_at D ab_clsK (bnd + w.1.toNat, ab_ce (ab_ad bnd aS) cA (ab_new w.2.2.1 w.1 0) (ab_new w.2.2.2 w.1 (-1)) w.1) H1) : ab_HW D cA bnd aS SL xs (w.1 + 1, w.2.1 + n, ab_new w.2.2.1 w.1 0, ab_new w.2.2.2 w.1 (-1)) H1 := by
  obtain ⟨h1, h2, h3, h4, h5, h6, h7⟩ := hw
  refine ⟨fun b hb0 hb1 => ?_, fun h => ?_, by omega, by show 0 ≤ w.1 + 1; omega, by show w.1 + 1 ≤ 186; omega, ?_, ?_⟩
  · by_cases hb : b = w.1
    · rw [hb, ab_ad_nn h4]; exact hon
    · have hb1 : b < w.1 + 1 := hb1
      show va_at D ab_clsK (_, ab_ce _ _ (ab_new w.2.2.1 w.1 0) (ab_new w.2.2.2 w.1 (-1)) b) H1
      rw [ab_ce_congr (ab_new_ne hb) (ab_new_ne hb)]
      refine (h1 b hb0 (by omega)).kept (o1 _ ?_)
      rw [ab_ad_nn hb0]
      omega
  · have h : w.1 + 1 < 186 := h
    show H1.size = bnd + (w.1 + 1).toNat
    omega
  · intro j hj
    show Int32.ofInt (ab_new w.2.2.1 w.1 0 (-2) j) = xs j
    rw [ab_new_ne (by omega)]
    exact h6 j hj
  · show ab_new w.2.2.2 w.1 (-1) (-2) (-1) = SL
    rw [ab_new_ne (by omega)]
    exact h7
theorem ab_S_new {H0 H H1 : Heap} {locs : List Loc} {n : Nat} (h : va_S (fun q => bnd ≤ q) H0 H locs) (hz : H.size = n) (z : H1.size = n + 1) (o1 : ∀ q : Nat, q < n → H1[q]? = H[q]?) : va_S (fun q => bnd ≤ q) H0 H1 locs := by
  have h1 := h.1
  refine ⟨by omega, fun q h2 h3 => ?_, h.2.2⟩
  rw [o1 q (by omega)]
  exact h.2.1 q h2 h3
theorem ab_p52 {i a nx : Nat} {b : Int} {L : ab_F} {st : List ab_V} {w : ab_W}  (C : ab_Cx D cA bnd aS SL xs k p R s m args meth c) (ho : ab_nth (ab_cod k) i = some (52, a, b, nx)) (hkd : ab_kd w.1 = ((a : Int), (ab_nF a : Int))) (h0 : 0 ≤ w.1) (hr1 : (w.1 + 1 - K0).toNat ≤ R.cells) (hr2 : w.2.1 + ab_nF a - S0 ≤ R.slots) (hk0 : K0 ≤ w.1) (hs0 : S0 ≤ w.2.1) (kk : ab_WW p l e R s m args below meth c Q D cA bnd aS SL xs K0 S0 k nx L ((2, w.1) :: st) (w.1 + 1, w.2.1 + ab_nF a, ab_new w.2.2.1 w.1 0, ab_new w.2.2.2 w.1 (-1))) : ab_WW p l e R s m args below meth c Q D cA bnd aS SL xs K0 S0 k i L st w := by
  intro H locs ls hw hS hl
  obtain ⟨hd, hsc, hp⟩ := ab_dec1 ho (by decide) rfl rfl
  have ha : a < 10 := ab_blt hsc
  have hwd : ∀ q ∈ ab_nw k i (52, a, b, nx), ab_isN q.2 = false → q.2 ∈ ab_TB := fun q hq hn => (ab_nw_ok ho hq).elim (fun h => h.2) (fun h => absurd h.1 (by rw [hn]; decide))
  have h186 : w.1 < 186 := ab_kd_186 (by rw [hkd]; show (a : Int) ≠ 999; omega)
  have hsz := hw.2.1 h186
  have hKn := C.2.2.2.2.2.2.2.2.2.2.1.1 a _ (ab_clsK_at ha)
  refine W.newcK C.1 C.2.1 C.2.2.2.1 (C.2.2.2.2.1 _ (hwd _ (List.mem_cons_self) rfl)) (C.2.2.2.2.1 _ (hwd _ (List.mem_cons_of_mem _ List.mem_cons_self) rfl)) (C.2.2.2.2.1 _ (hwd _ (List.mem_cons_of_mem _ (List.mem_cons_of_mem _ List.mem_cons_self)) rfl)) rfl hd (by omega) (by show w.2.1 - S0 + ab_nF a ≤ _; omega) hKn.2.1 hsz fun H1 kC hkC e1 z1 o1 => ?_
  have hw1 := ab_hw_new (n := ab_nF a) hw h186 z1 o1 (by
    rw [ab_ce_ob (c := a) (by rw [hkd]) ha]
    exact ⟨_, ab_clsK_at ha, (u_born (ab_ty a) C.2.2.2.2.1 (ab_lays ha) hKn hkC e1 (ab_tys_ok ha)).to (fun j hj => ab_def_ok ha hj _ _ _ _)⟩)
  have kk := kk H1 locs ls hw1 (ab_S_new hS hsz z1 o1) hl
  rw [hp] at kk
  dsimp only at kk
  rw [show (w.1 + 1 - K0).toNat = (w.1 - K0).toNat + 1 by omega, show w.2.1 + ab_nF a - S0 = w.2.1 - S0 + ab_nF a by omega] at kk
  simp only [List.map_cons, ab_cv, ab_ad_nn h0] at kk
  exact kk
theorem ab_ac0 : ab_gw ab_p_ac_int = some (.arrayClass .int) := rfl
theorem ab_ac1 : ab_gw ab_p_ac_byte = some (.arrayClass .byte) := rfl
theorem ab_ac2 : ab_gw ab_p_ac_bool = some (.arrayClass .boolean) := rfl
theorem ab_ac3 : ab_gw ab_p_ac_long = some (.arrayClass .long) := rfl
theorem ab_p53_0 {i nx : Nat} {b : Int} {L : ab_F} {st : List ab_V} {w : ab_W} {n : Int} (C : ab_Cx D cA bnd aS SL xs k p R s m args meth c) (ho : ab_nth (ab_cod k) i = some (53, 0, b, nx)) (hkd : ab_kd w.1 = (100 + ((0 : Nat) : Int), n)) (h0 : 0 ≤ w.1) (hn0 : 0 ≤ n) (hn1 : n < 100000) (hr1 : (w.1 + 1 - K0).toNat ≤ R.cells) (hr2 : w.2.1 + n.toNat - S0 ≤ R.slots) (hk0 : K0 ≤ w.1) (hs0 : S0 ≤ w.2.1) (kk : ab_WW p l e R s m args below meth c Q D cA bnd aS SL xs K0 S0 k nx L ((2, w.1) :: st) (w.1 + 1, w.2.1 + n.toNat, ab_new w.2.2.1 w.1 0, ab_new w.2.2.2 w.1 (-1))) : ab_WW p l e R s m args below meth c Q D cA bnd aS SL xs K0 S0 k i L ((0, n) :: st) w := by
  intro H locs ls hw hS hl
  obtain ⟨hd, hsc, hp⟩ := ab_dec1 ho (by decide) rfl rfl
  have h186 : w.1 < 186 := ab_kd_186 (by rw [hkd]; dsimp only; omega)
  have hsz := hw.2.1 h186
  have hni : (Int32.ofInt n).toInt = n := by rw [ab_i32, wr_of (by omega) (by omega)]
  have hnc : (Int32.ofInt n).toNatClampNeg = n.toNat := by show (Int32.ofInt n).toInt.toNat = _; rw [hni]
  have hn2 : ¬ Int32.ofInt n < 0 := by rw [Int32.lt_iff_toInt_lt, hni]; show ¬ n < 0; omega
  refine va_newaK (atype := .int) C.1 C.2.1 (C.2.2.2.2.1 _ (ab_in_TB ab_ac0 rfl)) rfl hd rfl hn2 hnc (by show n.toNat * componentBytes .int ≤ 536870912; simp only [componentBytes]; omega) (by omega) (by show w.2.1 - S0 + n.toNat ≤ _; omega) hsz fun H1 cA1 e1 z1 o1 hAr hNm => ?_
  have hcA : cA1 = cA 0 := by
    have h9 : s.vm.findClass ("[" ++ (FieldType.int).toString) = some (cA 0) := (C.2.2.2.2.2.2.2.2.2.2.1.2 0 _ rfl).2
    exact Option.some.inj (hNm.symm.trans h9)
  subst hcA
  have hw1 := ab_hw_new (n := n.toNat) hw h186 z1 o1 (by
    rw [ab_ce_ar (t := 0) (by rw [hkd]) (by decide)]
    show H1[_]? = some (vp_cell _ _)
    rw [e1, hkd]
    simp only [vp_cell_i, ab_new_at]
    try rfl)
  have kk := kk H1 locs ls hw1 (ab_S_new hS hsz z1 o1) hl
  rw [hp] at kk
  dsimp only at kk
  rw [show (w.1 + 1 - K0).toNat = (w.1 - K0).toNat + 1 by omega, show w.2.1 + n.toNat - S0 = w.2.1 - S0 + n.toNat by omega] at kk
  simp only [List.map_cons, ab_cv, ab_ad_nn h0] at kk
  exact kk
theorem ab_p53_1 {i nx : Nat} {b : Int} {L : ab_F} {st : List ab_V} {w : ab_W} {n : Int} (C : ab_Cx D cA bnd aS SL xs k p R s m args meth c) (ho : ab_nth (ab_cod k) i = some (53, 1, b, nx)) (hkd : ab_kd w.1 = (100 + ((1 : Nat) : Int), n)) (h0 : 0 ≤ w.1) (hn0 : 0 ≤ n) (hn1 : n < 100000) (hr1 : (w.1 + 1 - K0).toNat ≤ R.cells) (hr2 : w.2.1 + n.toNat - S0 ≤ R.slots) (hk0 : K0 ≤ w.1) (hs0 : S0 ≤ w.2.1) (kk : ab_WW p l e R s m args below meth c Q D cA bnd aS SL xs K0 S0 k nx L ((2, w.1) :: st) (w.1 + 1, w.2.1 + n.toNat, ab_new w.2.2.1 w.1 0, ab_new w.2.2.2 w.1 (-1))) : ab_WW p l e R s m args below meth c Q D cA bnd aS SL xs K0 S0 k i L ((0, n) :: st) w := by
  intro H locs ls hw hS hl
  obtain ⟨hd, hsc, hp⟩ := ab_dec1 ho (by decide) rfl rfl
  have h186 : w.1 < 186 := ab_kd_186 (by rw [hkd]; dsimp only; omega)
  have hsz := hw.2.1 h186
  have hni : (Int32.ofInt n).toInt = n := by rw [ab_i32, wr_of (by omega) (by omega)]
  have hnc : (Int32.ofInt n).toNatClampNeg = n.toNat := by show (Int32.ofInt n).toInt.toNat = _; rw [hni]
  have hn2 : ¬ Int32.ofInt n < 0 := by rw [Int32.lt_iff_toInt_lt, hni]; show ¬ n < 0; omega
  refine va_newaK (atype := .byte) C.1 C.2.1 (C.2.2.2.2.1 _ (ab_in_TB ab_ac1 rfl)) rfl hd rfl hn2 hnc (by show n.toNat * componentBytes .byte ≤ 536870912; simp only [componentBytes]; omega) (by omega) (by show w.2.1 - S0 + n.toNat ≤ _; omega) hsz fun H1 cA1 e1 z1 o1 hAr hNm => ?_
  have hcA : cA1 = cA 1 := by
    have h9 : s.vm.findClass ("[" ++ (FieldType.byte).toString) = some (cA 1) := (C.2.2.2.2.2.2.2.2.2.2.1.2 1 _ rfl).2
    exact Option.some.inj (hNm.symm.trans h9)
  subst hcA
  have hw1 := ab_hw_new (n := n.toNat) hw h186 z1 o1 (by
    rw [ab_ce_ar (t := 1) (by rw [hkd]) (by decide)]
    show H1[_]? = some (vp_cell _ _)
    rw [e1, hkd]
    simp only [vp_cell_i, ab_new_at]
    try rfl)
  have kk := kk H1 locs ls hw1 (ab_S_new hS hsz z1 o1) hl
  rw [hp] at kk
  dsimp only at kk
  rw [show (w.1 + 1 - K0).toNat = (w.1 - K0).toNat + 1 by omega, show w.2.1 + n.toNat - S0 = w.2.1 - S0 + n.toNat by omega] at kk
  simp only [List.map_cons, ab_cv, ab_ad_nn h0] at kk
  exact kk
theorem ab_p53_2 {i nx : Nat} {b : Int} {L : ab_F} {st : List ab_V} {w : ab_W} {n : Int} (C : ab_Cx D cA bnd aS SL xs k p R s m args meth c) (ho : ab_nth (ab_cod k) i = some (53, 2, b, nx)) (hkd : ab_kd w.1 = (100 + ((2 : Nat) : Int), n)) (h0 : 0 ≤ w.1) (hn0 : 0 ≤ n) (hn1 : n < 100000) (hr1 : (w.1 + 1 - K0).toNat ≤ R.cells) (hr2 : w.2.1 + n.toNat - S0 ≤ R.slots) (hk0 : K0 ≤ w.1) (hs0 : S0 ≤ w.2.1) (kk : ab_WW p l e R s m args below meth c Q D cA bnd aS SL xs K0 S0 k nx L ((2, w.1) :: st) (w.1 + 1, w.2.1 + n.toNat, ab_new w.2.2.1 w.1 0, ab_new w.2.2.2 w.1 (-1))) : ab_WW p l e R s m args below meth c Q D cA bnd aS SL xs K0 S0 k i L ((0, n) :: st) w := by
  intro H locs ls hw hS hl
  obtain ⟨hd, hsc, hp⟩ := ab_dec1 ho (by decide) rfl rfl
  have h186 : w.1 < 186 := ab_kd_186 (by rw [hkd]; dsimp only; omega)
  have hsz := hw.2.1 h186
  have hni : (Int32.ofInt n).toInt = n := by rw [ab_i32, wr_of (by omega) (by omega)]
  have hnc : (Int32.ofInt n).toNatClampNeg = n.toNat := by show (Int32.ofInt n).toInt.toNat = _; rw [hni]
  have hn2 : ¬ Int32.ofInt n < 0 := by rw [Int32.lt_iff_toInt_lt, hni]; show ¬ n < 0; omega
  refine va_newaK (atype := .boolean) C.1 C.2.1 (C.2.2.2.2.1 _ (ab_in_TB ab_ac2 rfl)) rfl hd rfl hn2 hnc (by show n.toNat * componentBytes .boolean ≤ 536870912; simp only [componentBytes]; omega) (by omega) (by show w.2.1 - S0 + n.toNat ≤ _; omega) hsz fun H1 cA1 e1 z1 o1 hAr hNm => ?_
  have hcA : cA1 = cA 2 := by
    have h9 : s.vm.findClass ("[" ++ (FieldType.boolean).toString) = some (cA 2) := (C.2.2.2.2.2.2.2.2.2.2.1.2 2 _ rfl).2
    exact Option.some.inj (hNm.symm.trans h9)
  subst hcA
  have hw1 := ab_hw_new (n := n.toNat) hw h186 z1 o1 (by
    rw [ab_ce_ar (t := 2) (by rw [hkd]) (by decide)]
    show H1[_]? = some (vp_cell _ _)
    rw [e1, hkd]
    simp only [vp_cell_i, ab_new_at]
    try rfl)
  have kk := kk H1 locs ls hw1 (ab_S_new hS hsz z1 o1) hl
  rw [hp] at kk
  dsimp only at kk
  rw [show (w.1 + 1 - K0).toNat = (w.1 - K0).toNat + 1 by omega, show w.2.1 + n.toNat - S0 = w.2.1 - S0 + n.toNat by omega] at kk
  simp only [List.map_cons, ab_cv, ab_ad_nn h0] at kk
  exact kk
theorem ab_p53_3 {i nx : Nat} {b : Int} {L : ab_F} {st : List ab_V} {w : ab_W} {n : Int} (C : ab_Cx D cA bnd aS SL xs k p R s m args meth c) (ho : ab_nth (ab_cod k) i = some (53, 3, b, nx)) (hkd : ab_kd w.1 = (100 + ((3 : Nat) : Int), n)) (h0 : 0 ≤ w.1) (hn0 : 0 ≤ n) (hn1 : n < 100000) (hr1 : (w.1 + 1 - K0).toNat ≤ R.cells) (hr2 : w.2.1 + n.toNat - S0 ≤ R.slots) (hk0 : K0 ≤ w.1) (hs0 : S0 ≤ w.2.1) (kk : ab_WW p l e R s m args below meth c Q D cA bnd aS SL xs K0 S0 k nx L ((2, w.1) :: st) (w.1 + 1, w.2.1 + n.toNat, ab_new w.2.2.1 w.1 0, ab_new w.2.2.2 w.1 (-1))) : ab_WW p l e R s m args below meth c Q D cA bnd aS SL xs K0 S0 k i L ((0, n) :: st) w := by
  intro H locs ls hw hS hl
  obtain ⟨hd, hsc, hp⟩ := ab_dec1 ho (by decide) rfl rfl
  have h186 : w.1 < 186 := ab_kd_186 (by rw [hkd]; dsimp only; omega)
  have hsz := hw.2.1 h186
  have hni : (Int32.ofInt n).toInt = n := by rw [ab_i32, wr_of (by omega) (by omega)]
  have hnc : (Int32.ofInt n).toNatClampNeg = n.toNat := by show (Int32.ofInt n).toInt.toNat = _; rw [hni]
  have hn2 : ¬ Int32.ofInt n < 0 := by rw [Int32.lt_iff_toInt_lt, hni]; show ¬ n < 0; omega
  refine va_newaK (atype := .long) C.1 C.2.1 (C.2.2.2.2.1 _ (ab_in_TB ab_ac3 rfl)) rfl hd rfl hn2 hnc (by show n.toNat * componentBytes .long ≤ 536870912; simp only [componentBytes]; omega) (by omega) (by show w.2.1 - S0 + n.toNat ≤ _; omega) hsz fun H1 cA1 e1 z1 o1 hAr hNm => ?_
  have hcA : cA1 = cA 3 := by
    have h9 : s.vm.findClass ("[" ++ (FieldType.long).toString) = some (cA 3) := (C.2.2.2.2.2.2.2.2.2.2.1.2 3 _ rfl).2
    exact Option.some.inj (hNm.symm.trans h9)
  subst hcA
  have hw1 := ab_hw_new (n := n.toNat) hw h186 z1 o1 (by
    rw [ab_ce_al (by rw [hkd]; rfl)]
    show H1[_]? = some (vp_cell _ _)
    rw [e1, hkd]
    simp only [vp_cell_l, ab_new_at]
    try rfl)
  have kk := kk H1 locs ls hw1 (ab_S_new hS hsz z1 o1) hl
  rw [hp] at kk
  dsimp only at kk
  rw [show (w.1 + 1 - K0).toNat = (w.1 - K0).toNat + 1 by omega, show w.2.1 + n.toNat - S0 = w.2.1 - S0 + n.toNat by omega] at kk
  simp only [List.map_cons, ab_cv, ab_ad_nn h0] at kk
  exact kk
theorem ab_p54 {i a nx : Nat} {b : Int} {L : ab_F} {st : List ab_V} {w : ab_W} {n : Int} (C : ab_Cx D cA bnd aS SL xs k p R s m args meth c) (ho : ab_nth (ab_cod k) i = some (54, a, b, nx)) (hkd : ab_kd w.1 = (104, n)) (h0 : 0 ≤ w.1) (hn0 : 0 ≤ n) (hn1 : n < 100000) (hr1 : (w.1 + 1 - K0).toNat ≤ R.cells) (hr2 : w.2.1 + n.toNat - S0 ≤ R.slots) (hk0 : K0 ≤ w.1) (hs0 : S0 ≤ w.2.1) (kk : ab_WW p l e R s m args below meth c Q D cA bnd aS SL xs K0 S0 k nx L ((2, w.1) :: st) (w.1 + 1, w.2.1 + n.toNat, ab_new w.2.2.1 w.1 0, ab_new w.2.2.2 w.1 (-1))) : ab_WW p l e R s m args below meth c Q D cA bnd aS SL xs K0 S0 k i L ((0, n) :: st) w := by
  intro H locs ls hw hS hl
  obtain ⟨hd, hsc, hp⟩ := ab_dec1 ho (by decide) rfl rfl
  have hwd : ∀ q ∈ ab_nw k i (54, a, b, nx), ab_isN q.2 = false → q.2 ∈ ab_TB := fun q hq hn => (ab_nw_ok ho hq).elim (fun h => h.2) (fun h => absurd h.1 (by rw [hn]; decide))
  have h186 : w.1 < 186 := ab_kd_186 (by rw [hkd]; dsimp only; omega)
  have hsz := hw.2.1 h186
  have hni : (Int32.ofInt n).toInt = n := by rw [ab_i32, wr_of (by omega) (by omega)]
  have hnc : (Int32.ofInt n).toNatClampNeg = n.toNat := by show (Int32.ofInt n).toInt.toNat = _; rw [hni]
  have hn2 : ¬ Int32.ofInt n < 0 := by rw [Int32.lt_iff_toInt_lt, hni]; show ¬ n < 0; omega
  refine W.anew C.1 C.2.1 C.2.2.2.1 (C.2.2.2.2.1 _ (hwd _ List.mem_cons_self rfl)) (va_AO.use C.2.2.2.2.2.2.2.2.2.2.2.1) rfl hd rfl hn2 (by rw [hnc]; omega) (by omega) (by rw [hnc]; show w.2.1 - S0 + n.toNat ≤ _; omega) fun cA1 kA comp f1 f2 f3 f4 => ?_
  generalize hH1 : H.push ({ cls := cA1, slots := Array.replicate (Int32.ofInt n).toNatClampNeg .null, vm := .none } : Cell) = H1
  have z1 : H1.size = bnd + w.1.toNat + 1 := by rw [← hH1, Array.size_push, hsz]
  have e1 : H1[bnd + w.1.toNat]? = some (arrV cA1 n.toNat (fun _ => .null)) := by rw [← hH1, ← hsz, Array.getElem?_push_size, ← arrV_new, hnc]
  have o1 : ∀ q : Nat, q < bnd + w.1.toNat → H1[q]? = H[q]? := fun q hq => by rw [← hH1, Array.getElem?_push, if_neg (by omega)]
  have hcA : cA1 = cA 4 := by
    obtain ⟨kA9, comp9, -, -, -, h9⟩ := (C.2.2.2.2.2.2.2.2.2.2.1.2 4 _ rfl).2
    exact Option.some.inj (f1.symm.trans h9)
  subst hcA
  have hw1 := ab_hw_new (n := n.toNat) hw h186 z1 o1 (by
    rw [ab_ce_aq (by rw [hkd])]
    show H1[_]? = some (vp_cell _ _)
    rw [e1, hkd]
    simp only [vp_cell_q, ab_new_at]
    rfl)
  have kk := kk H1 locs ls hw1 (ab_S_new hS hsz z1 o1) hl
  rw [hp] at kk
  dsimp only at kk
  rw [show (w.1 + 1 - K0).toNat = (w.1 - K0).toNat + 1 by omega, show w.2.1 + n.toNat - S0 = w.2.1 - S0 + n.toNat by omega] at kk
  simp only [List.map_cons, ab_cv, ab_ad_nn h0] at kk
  rw [hsz, hnc]
  exact kk
end AbArr
end
section
/-! THE ABSTRACT MACHINE IS SOUND, part 5: branches, the statics, Math, arraycopy. -/
section AbBr
variable {p : Program} {l : Launch} {e : Env} {R : Room} {s : State} {m : MethodId} {args : Array Value} {below : List Frame} {meth : Method} {c : Code} {Q : State → Prop} {D : va_G} {cA : Nat → ClassId} {bnd : Nat} {aS : Int → Nat} {SL : Nat} {xs : Nat → Int32} {K0 : Int} {S0 : Nat} {k : Nat}
theorem ab_ifI_le {b off : Int} (h0 : b ≠ 0) (h1 : b ≠ 1) (h2 : b ≠ 2) (h3 : b ≠ 3) (h4 : b ≠ 4) : ab_ifI b off = .ifCond .le off ∧ ab_icI b off = .if_icmp .le off ∧ ∀ x y, ab_cB b x y = decide (wr x ≤ wr y) := by
  refine ⟨?_, ?_, fun x y => ?_⟩
  · unfold ab_ifI; split <;> first | omega | rfl
  · unfold ab_icI; split <;> first | omega | rfl
  · unfold ab_cB; split <;> first | omega | rfl
theorem ab_b6 (b : Int) : b = 0 ∨ b = 1 ∨ b = 2 ∨ b = 3 ∨ b = 4 ∨ (b ≠ 0 ∧ b ≠ 1 ∧ b ≠ 2 ∧ b ≠ 3 ∧ b ≠ 4) := by omega
theorem ab_z32 : (0 : Int32) = Int32.ofInt 0 := rfl
theorem ab_p32 {i a nx : Nat} {b : Int} {L : ab_F} {st : List ab_V} {w : ab_W} {x : Int} (C : ab_Cx D cA bnd aS SL xs k p R s m args meth c) (ho : ab_nth (ab_cod k) i = some (32, a, b, nx))  (kk : ab_WW p l e R s m args below meth c Q D cA bnd aS SL xs K0 S0 k (if ab_cB b x 0 then a else nx) L st w) : ab_WW p l e R s m args below meth c Q D cA bnd aS SL xs K0 S0 k i L ((0, x) :: st) w := by
  intro H locs ls hw hS hl
  obtain ⟨hd, hsc, hp⟩ := ab_dec1 ho (by decide) rfl rfl
  have kk := kk H locs ls hw hS hl
  rcases ab_b6 b with rfl | rfl | rfl | rfl | rfl | ⟨h0, h1, h2, h3, h4⟩
  · refine lv_if_eq (off := (ab_pc k a : Int) - (ab_pc k i : Int)) (tgt := ab_pc k a) C.1 C.2.1 hd (by omega) (fun h => ?_) (fun h => ?_)
    · rw [ab_z32] at h
      rw [ab_eq] at h
      have hB : ab_cB 0 x 0 = true := by simp [ab_cB, h]
      rw [hB] at kk
      exact kk
    · rw [ab_z32] at h
      rw [ab_eq] at h
      have hB : ab_cB 0 x 0 = false := by simp [ab_cB, h]
      rw [hB] at kk
      rw [show (if false = true then a else nx) = nx from rfl, hp] at kk
      exact kk
  · refine lv_if_ne (off := (ab_pc k a : Int) - (ab_pc k i : Int)) (tgt := ab_pc k a) C.1 C.2.1 hd (by omega) (fun h => ?_) (fun h => ?_)
    · rw [ab_z32] at h
      simp only [ne_eq, ab_eq] at h
      have hB : ab_cB 1 x 0 = true := by simp [ab_cB, h]
      rw [hB] at kk
      exact kk
    · rw [ab_z32] at h
      simp only [ne_eq, ab_eq] at h
      have hB : ab_cB 1 x 0 = false := by simp [ab_cB, h]
      rw [hB] at kk
      rw [show (if false = true then a else nx) = nx from rfl, hp] at kk
      exact kk
  · refine lv_if_lt (off := (ab_pc k a : Int) - (ab_pc k i : Int)) (tgt := ab_pc k a) C.1 C.2.1 hd (by omega) (fun h => ?_) (fun h => ?_)
    · rw [ab_z32] at h
      rw [ab_lt] at h
      have hB : ab_cB 2 x 0 = true := by simp [ab_cB, h]
      rw [hB] at kk
      exact kk
    · rw [ab_z32] at h
      rw [ab_lt] at h
      have hB : ab_cB 2 x 0 = false := by simp [ab_cB, h]
      rw [hB] at kk
      rw [show (if false = true then a else nx) = nx from rfl, hp] at kk
      exact kk
  · refine lv_if_ge (off := (ab_pc k a : Int) - (ab_pc k i : Int)) (tgt := ab_pc k a) C.1 C.2.1 hd (by omega) (fun h => ?_) (fun h => ?_)
    · rw [ab_z32] at h
      rw [ab_le] at h
      have hB : ab_cB 3 x 0 = true := by simp [ab_cB, h]
      rw [hB] at kk
      exact kk
    · rw [ab_z32] at h
      rw [ab_le] at h
      have hB : ab_cB 3 x 0 = false := by simp [ab_cB, h]
      rw [hB] at kk
      rw [show (if false = true then a else nx) = nx from rfl, hp] at kk
      exact kk
  · refine lv_if_gt (off := (ab_pc k a : Int) - (ab_pc k i : Int)) (tgt := ab_pc k a) C.1 C.2.1 hd (by omega) (fun h => ?_) (fun h => ?_)
    · rw [ab_z32] at h
      rw [ab_lt] at h
      have hB : ab_cB 4 x 0 = true := by simp [ab_cB, h]
      rw [hB] at kk
      exact kk
    · rw [ab_z32] at h
      rw [ab_lt] at h
      have hB : ab_cB 4 x 0 = false := by simp [ab_cB, h]
      rw [hB] at kk
      rw [show (if false = true then a else nx) = nx from rfl, hp] at kk
      exact kk
  · obtain ⟨q1, q2, q3⟩ := ab_ifI_le (off := (ab_pc k a : Int) - (ab_pc k i : Int)) h0 h1 h2 h3 h4
    rw [q1] at hd
    rw [q3] at kk
    refine lv_if_le (off := (ab_pc k a : Int) - (ab_pc k i : Int)) (tgt := ab_pc k a) C.1 C.2.1 hd (by omega) (fun h => ?_) (fun h => ?_)
    · rw [ab_z32] at h
      rw [ab_le] at h
      have hB : decide (wr x ≤ wr 0) = true := by simp [h]
      rw [hB] at kk
      exact kk
    · rw [ab_z32] at h
      rw [ab_le] at h
      have hB : decide (wr x ≤ wr 0) = false := by simp [h]
      rw [hB] at kk
      rw [show (if false = true then a else nx) = nx from rfl, hp] at kk
      exact kk

theorem ab_p33 {i a nx : Nat} {b : Int} {L : ab_F} {st : List ab_V} {w : ab_W} {x y : Int} (C : ab_Cx D cA bnd aS SL xs k p R s m args meth c) (ho : ab_nth (ab_cod k) i = some (33, a, b, nx))  (kk : ab_WW p l e R s m args below meth c Q D cA bnd aS SL xs K0 S0 k (if ab_cB b x y then a else nx) L st w) : ab_WW p l e R s m args below meth c Q D cA bnd aS SL xs K0 S0 k i L ((0, y) :: (0, x) :: st) w := by
  intro H locs ls hw hS hl
  obtain ⟨hd, hsc, hp⟩ := ab_dec1 ho (by decide) rfl rfl
  have kk := kk H locs ls hw hS hl
  rcases ab_b6 b with rfl | rfl | rfl | rfl | rfl | ⟨h0, h1, h2, h3, h4⟩
  · refine lv_icmp_eq (off := (ab_pc k a : Int) - (ab_pc k i : Int)) (tgt := ab_pc k a) C.1 C.2.1 hd (by omega) (fun h => ?_) (fun h => ?_)
    · rw [ab_eq] at h
      have hB : ab_cB 0 x y = true := by simp [ab_cB, h]
      rw [hB] at kk
      exact kk
    · rw [ab_eq] at h
      have hB : ab_cB 0 x y = false := by simp [ab_cB, h]
      rw [hB] at kk
      rw [show (if false = true then a else nx) = nx from rfl, hp] at kk
      exact kk
  · refine lv_icmp_ne (off := (ab_pc k a : Int) - (ab_pc k i : Int)) (tgt := ab_pc k a) C.1 C.2.1 hd (by omega) (fun h => ?_) (fun h => ?_)
    · simp only [ne_eq, ab_eq] at h
      have hB : ab_cB 1 x y = true := by simp [ab_cB, h]
      rw [hB] at kk
      exact kk
    · simp only [ne_eq, ab_eq] at h
      have hB : ab_cB 1 x y = false := by simp [ab_cB, h]
      rw [hB] at kk
      rw [show (if false = true then a else nx) = nx from rfl, hp] at kk
      exact kk
  · refine lv_icmp_lt (off := (ab_pc k a : Int) - (ab_pc k i : Int)) (tgt := ab_pc k a) C.1 C.2.1 hd (by omega) (fun h => ?_) (fun h => ?_)
    · rw [ab_lt] at h
      have hB : ab_cB 2 x y = true := by simp [ab_cB, h]
      rw [hB] at kk
      exact kk
    · rw [ab_lt] at h
      have hB : ab_cB 2 x y = false := by simp [ab_cB, h]
      rw [hB] at kk
      rw [show (if false = true then a else nx) = nx from rfl, hp] at kk
      exact kk
  · refine lv_icmp_ge (off := (ab_pc k a : Int) - (ab_pc k i : Int)) (tgt := ab_pc k a) C.1 C.2.1 hd (by omega) (fun h => ?_) (fun h => ?_)
    · rw [ab_le] at h
      have hB : ab_cB 3 x y = true := by simp [ab_cB, h]
      rw [hB] at kk
      exact kk
    · rw [ab_le] at h
      have hB : ab_cB 3 x y = false := by simp [ab_cB, h]
      rw [hB] at kk
      rw [show (if false = true then a else nx) = nx from rfl, hp] at kk
      exact kk
  · refine lv_icmp_gt (off := (ab_pc k a : Int) - (ab_pc k i : Int)) (tgt := ab_pc k a) C.1 C.2.1 hd (by omega) (fun h => ?_) (fun h => ?_)
    · rw [ab_lt] at h
      have hB : ab_cB 4 x y = true := by simp [ab_cB, h]
      rw [hB] at kk
      exact kk
    · rw [ab_lt] at h
      have hB : ab_cB 4 x y = false := by simp [ab_cB, h]
      rw [hB] at kk
      rw [show (if false = true then a else nx) = nx from rfl, hp] at kk
      exact kk
  · obtain ⟨q1, q2, q3⟩ := ab_ifI_le (off := (ab_pc k a : Int) - (ab_pc k i : Int)) h0 h1 h2 h3 h4
    rw [q2] at hd
    rw [q3] at kk
    refine lv_icmp_le (off := (ab_pc k a : Int) - (ab_pc k i : Int)) (tgt := ab_pc k a) C.1 C.2.1 hd (by omega) (fun h => ?_) (fun h => ?_)
    · rw [ab_le] at h
      have hB : decide (wr x ≤ wr y) = true := by simp [h]
      rw [hB] at kk
      exact kk
    · rw [ab_le] at h
      have hB : decide (wr x ≤ wr y) = false := by simp [h]
      rw [hB] at kk
      rw [show (if false = true then a else nx) = nx from rfl, hp] at kk
      exact kk

theorem ab_nth_get {α : Type} : ∀ (l : List α) (i : Nat), ab_nth l i = l[i]? := by
  intro l
  induction l with
  | nil => intro i; simp [ab_nth]
  | cons x t ih =>
    intro i
    cases i with
    | zero => rfl
    | succ i => simp [ab_nth, ih]
theorem ab_p34 {i a nx : Nat} {b : Int} {L : ab_F} {st : List ab_V} {w : ab_W} {x : Int} (C : ab_Cx D cA bnd aS SL xs k p R s m args meth c) (ho : ab_nth (ab_cod k) i = some (34, a, b, nx))  (kk : ab_WW p l e R s m args below meth c Q D cA bnd aS SL xs K0 S0 k (ab_ts a x) L st w) : ab_WW p l e R s m args below meth c Q D cA bnd aS SL xs K0 S0 k i L ((0, x) :: st) w := by
  intro H locs ls hw hS hl
  have kk := kk H locs ls hw hS hl
  obtain ⟨q, hq, hd, hsc, -⟩ := ab_dec ho (show 34 < 72 by decide)
  unfold ab_ts at kk
  have hal : ab_alt k i (34, a, b, nx) = match ab_nth ab_tsL a with
    | some q => [(.tableswitch ((ab_pc k q.2.1 : Int) - (ab_pc k i : Int)) q.1 (q.1 + q.2.2.length - 1) (q.2.2.map fun t => (ab_pc k t : Int) - (ab_pc k i : Int)).toArray, 1 + (3 - ab_pc k i % 4) + 12 + 4 * q.2.2.length, decide (0 < q.2.2.length) && decide (-1000 < q.1 ∧ q.1 < 1000))]
    | none => [] := rfl
  rw [hal] at hq
  cases hT : ab_nth ab_tsL a with
  | none => rw [hT] at hq; cases hq
  | some t =>
    obtain ⟨lo, d, tg⟩ := t
    rw [hT] at hq kk
    cases List.mem_singleton.mp hq
    dsimp only at kk hd
    simp only [List.map_cons, ab_cv]
    by_cases hlo : wr x < lo
    · rw [if_pos hlo] at kk
      exact lv_tableOut (dflt := (ab_pc k d : Int) - (ab_pc k i : Int)) (tgt := ab_pc k d) C.1 C.2.1 hd (Or.inl (by rw [ab_i32]; exact hlo)) (by omega) kk
    · rw [if_neg hlo] at kk
      by_cases hhi : lo + (tg.length : Int) - 1 < wr x
      · have hn : ab_nth tg (wr x - lo).toNat = none := by
          rw [ab_nth_get, List.getElem?_eq_none_iff]; omega
        rw [hn] at kk
        exact lv_tableOut (dflt := (ab_pc k d : Int) - (ab_pc k i : Int)) (tgt := ab_pc k d) C.1 C.2.1 hd (Or.inr (by rw [ab_i32]; exact hhi)) (by omega) kk
      · have hlt : (wr x - lo).toNat < tg.length := by omega
        obtain ⟨t, ht⟩ : ∃ t, ab_nth tg (wr x - lo).toNat = some t := ⟨tg[(wr x - lo).toNat], by rw [ab_nth_get]; exact List.getElem?_eq_getElem hlt⟩
        rw [ht] at kk
        refine lv_tableIn (off := (ab_pc k t : Int) - (ab_pc k i : Int)) (tgt := ab_pc k t) C.1 C.2.1 hd (by rw [ab_i32]; exact hlo) (by rw [ab_i32]; exact hhi) ?_ (by omega) kk
        rw [ab_i32]
        rw [ab_nth_get] at ht
        simp [List.getElem?_toArray, List.getElem?_map, ht]
theorem ab_p42 {i a nx : Nat} {b : Int} {L : ab_F} {st : List ab_V} {w : ab_W}  (C : ab_Cx D cA bnd aS SL xs k p R s m args meth c) (ho : ab_nth (ab_cod k) i = some (42, a, b, nx))  (kk : ab_WW p l e R s m args below meth c Q D cA bnd aS SL xs K0 S0 k nx L ((2, b) :: st) w) : ab_WW p l e R s m args below meth c Q D cA bnd aS SL xs K0 S0 k i L st w := by
  intro H locs ls hw hS hl
  obtain ⟨hd, hsc, hp⟩ := ab_dec1 ho (by decide) rfl rfl
  have kk := kk H locs ls hw hS hl
  rw [hp] at kk
  have hw1 := ab_nw_ok ho (List.mem_cons_self)
  simp only [Bool.or_eq_true, Bool.and_eq_true, decide_eq_true_eq] at hsc
  have hSF := C.2.2.2.2.2.2.2.2.2.2.2.2.1
  rcases hsc with ⟨rfl, hfl⟩ | ⟨rfl | rfl, hfl⟩
  · have hfl : (ab_ax k i).2.2.2 < 2 := ab_blt hfl
    by_cases h0 : (ab_ax k i).2.2.2 = 0
    · have hw2 : (goodWord (Cond.fieldLink (ab_own k) (ab_ax k i).2.1 "EventLedger" "WORDS" "[LEventLedger$Word;") = true ∧ (Cond.fieldLink (ab_own k) (ab_ax k i).2.1 "EventLedger" "WORDS" "[LEventLedger$Word;") ∈ ab_TB) ∨ (ab_isN (Cond.fieldLink (ab_own k) (ab_ax k i).2.1 "EventLedger" "WORDS" "[LEventLedger$Word;") = true ∧ (Cond.fieldLink (ab_own k) (ab_ax k i).2.1 "EventLedger" "WORDS" "[LEventLedger$Word;") ∈ ab_NW) := by
        dsimp only at hw1
        rw [h0] at hw1
        exact hw1
      rcases hw2 with h | h
      · exact va_gets C.1 C.2.1 hSF.1 hS C.2.2.2.1 (C.2.2.2.2.1 _ h.2) (fun _ h => h) hd kk
      · exact absurd h.1 (by simp [ab_isN])
    · have h1 : (ab_ax k i).2.2.2 = 1 := by omega
      have hw2 : (goodWord (Cond.fieldLinkNest (ab_own k) (ab_ax k i).2.1 "EventLedger" "WORDS" "[LEventLedger$Word;" "EventLedger") = true ∧ (Cond.fieldLinkNest (ab_own k) (ab_ax k i).2.1 "EventLedger" "WORDS" "[LEventLedger$Word;" "EventLedger") ∈ ab_TB) ∨ (ab_isN (Cond.fieldLinkNest (ab_own k) (ab_ax k i).2.1 "EventLedger" "WORDS" "[LEventLedger$Word;" "EventLedger") = true ∧ (Cond.fieldLinkNest (ab_own k) (ab_ax k i).2.1 "EventLedger" "WORDS" "[LEventLedger$Word;" "EventLedger") ∈ ab_NW) := by
        dsimp only at hw1
        rw [h1] at hw1
        exact hw1
      rcases hw2 with h | h
      · exact absurd h.1 (by simp [goodWord, Cond.onTables, Cond.keeps, Cond.steady])
      · exact va_getsN C.1 C.2.1 hSF.1 hS C.2.2.2.1 (va_Nw.use rfl (C.2.2.2.2.2.1.1 _ h.2)) (fun _ h => h) hd kk
  · rcases hw1 with h | h
    · exact va_gets C.1 C.2.1 hSF.2.1 hS C.2.2.2.1 (C.2.2.2.2.1 _ h.2) (fun _ h => h) hd kk
    · exact absurd h.1 (by simp [ab_isN])
  · rcases hw1 with h | h
    · exact va_gets C.1 C.2.1 hSF.2.2.1 hS C.2.2.2.1 (C.2.2.2.2.1 _ h.2) (fun _ h => h) hd kk
    · exact absurd h.1 (by simp [ab_isN])
theorem ab_p62 {i a nx : Nat} {b : Int} {L : ab_F} {st : List ab_V} {w : ab_W}  (C : ab_Cx D cA bnd aS SL xs k p R s m args meth c) (ho : ab_nth (ab_cod k) i = some (62, a, b, nx))  (kk : ab_WW p l e R s m args below meth c Q D cA bnd aS SL xs K0 S0 k nx L ((0, 17) :: st) w) : ab_WW p l e R s m args below meth c Q D cA bnd aS SL xs K0 S0 k i L ((2, -3) :: st) w := by
  intro H locs ls hw hS hl
  obtain ⟨hd, hsc, hp⟩ := ab_dec1 ho (by decide) rfl rfl
  have kk := kk H locs ls hw hS hl
  rw [hp] at kk
  exact va_tlen C.1 C.2.1 (C.2.2.2.2.2.2.2.2.2.2.2.2.1).2.2.2.1 hS rfl hd kk
theorem ab_p63 {i a nx : Nat} {b : Int} {L : ab_F} {st : List ab_V} {w : ab_W} {j : Int} (C : ab_Cx D cA bnd aS SL xs k p R s m args meth c) (ho : ab_nth (ab_cod k) i = some (63, a, b, nx)) (hj : 0 ≤ j ∧ j < 17) (kk : ab_WW p l e R s m args below meth c Q D cA bnd aS SL xs K0 S0 k nx L ((2, -5 - j) :: st) w) : ab_WW p l e R s m args below meth c Q D cA bnd aS SL xs K0 S0 k i L ((0, j) :: (2, -3) :: st) w := by
  intro H locs ls hw hS hl
  obtain ⟨hd, hsc, hp⟩ := ab_dec1 ho (by decide) rfl rfl
  have kk := kk H locs ls hw hS hl
  rw [hp] at kk
  obtain ⟨e1, e2⟩ := ab_ix hj.1 hj.2 (by decide)
  refine vb_tq C.1 C.2.1 (C.2.2.2.2.2.2.2.2.2.2.2.2.1).2.2.2.1 hS e2 (v := .ref (ab_ad bnd aS (-5 - j))) ?_ hd kk
  rw [e1, Int.toNat_of_nonneg hj.1, ab_ad_neg (by omega)]
theorem ab_p64 {i a nx : Nat} {b : Int} {L : ab_F} {st : List ab_V} {w : ab_W} {j : Int} (C : ab_Cx D cA bnd aS SL xs k p R s m args meth c) (ho : ab_nth (ab_cod k) i = some (64, a, b, nx)) (hj : 0 ≤ j ∧ j < 17) (kk : ab_WW p l e R s m args below meth c Q D cA bnd aS SL xs K0 S0 k nx L ((0, (ab_nth ab_swm j.toNat).getD 0) :: st) w) : ab_WW p l e R s m args below meth c Q D cA bnd aS SL xs K0 S0 k i L ((0, j) :: (2, -4) :: st) w := by
  intro H locs ls hw hS hl
  obtain ⟨hd, hsc, hp⟩ := ab_dec1 ho (by decide) rfl rfl
  have kk := kk H locs ls hw hS hl
  rw [hp] at kk
  obtain ⟨e1, e2⟩ := ab_ix hj.1 hj.2 (by decide)
  refine va_ti C.1 C.2.1 (C.2.2.2.2.2.2.2.2.2.2.2.2.1).2.2.2.2.1 hS e2 (v := .int (Int32.ofInt ((ab_nth ab_swm j.toNat).getD 0))) ?_ hd kk
  rw [e1]
theorem ab_getfN {H : Heap} {locs : List Loc} {cells slots pc : Nat} {ls : Array Slot} {rest : List Value} {cc : ByteArray} {o n d own host : String} {index q : Nat} {v : Value} {A : Nat → Prop} (hexec : p.tables.exec = Jvm.exec) (hb : c.code = cc) (hE : va_OF o n d v q A s s.heap) (hS : va_S A s.heap H locs) (hown : s.vm.findClass own = some m.cls) (hlink : (Cond.fieldLinkNest own index o n d host).before args s = true) (hdg : decode cc pc = .ok (.getfield index, 3))
    (kk : W p l e R s m args below meth c H locs cells slots Q (F0 m (pc + 3) ls (v :: rest))) : W p l e R s m args below meth c H locs cells slots Q (F0 m pc ls (.ref q :: rest)) := by
  obtain ⟨cf, k, fi, f, cell, h1, h2, h3, h4, h5, h6⟩ := hE.kept hS.2.1
  exact va_Wgetf hexec hb hown hlink h1 h2 h3 h4 (v := v) h5 rfl rfl hdg kk
theorem ab_word {x : Int} (hx : x ≤ -5 ∧ -21 ≤ x) : ∃ j : Nat, j < 17 ∧ x = -5 - (j : Int) ∧ (-5 - x).toNat = j := ⟨(-5 - x).toNat, by omega, by omega, rfl⟩
theorem ab_p65_1 {i nx : Nat} {b : Int} {L : ab_F} {st : List ab_V} {w : ab_W} {x : Int} (C : ab_Cx D cA bnd aS SL xs k p R s m args meth c) (ho : ab_nth (ab_cod k) i = some (65, 1, b, nx)) (hx : x ≤ -5 ∧ -21 ≤ x) (kk : ab_WW p l e R s m args below meth c Q D cA bnd aS SL xs K0 S0 k nx L ((1, ((ab_nth ab_wt (-5 - x).toNat).getD (0, 0, 0)).1) :: st) w) : ab_WW p l e R s m args below meth c Q D cA bnd aS SL xs K0 S0 k i L ((2, x) :: st) w := by
  intro H locs ls hw hS hl
  obtain ⟨hd, hsc, hp⟩ := ab_dec1 ho (by decide) rfl rfl
  have kk := kk H locs ls hw hS hl
  rw [hp] at kk
  have hw1 := ab_nw_ok ho (List.mem_cons_self)
  simp only [Bool.and_eq_true] at hsc
  have hfl : (ab_ax k i).2.2.2 < 2 := ab_blt hsc.2
  obtain ⟨j, hj, hxj, hj2⟩ := ab_word hx
  have hF := (((C.2.2.2.2.2.2.2.2.2.2.2.2.1).2.2.2.2.2.1 j hj).2.2.1)
  rw [hj2] at kk
  have hax : ab_ad bnd aS x = aS (-5 - (j : Int)) := by rw [ab_ad_neg (by omega), hxj]
  simp only [List.map_cons, ab_cv, hax] at kk ⊢
  by_cases h0 : (ab_ax k i).2.2.2 = 0
  · have hw2 : (goodWord (Cond.fieldLink (ab_own k) (ab_ax k i).2.1 "EventLedger$Word" "code" "J") = true ∧ (Cond.fieldLink (ab_own k) (ab_ax k i).2.1 "EventLedger$Word" "code" "J") ∈ ab_TB) ∨ (ab_isN (Cond.fieldLink (ab_own k) (ab_ax k i).2.1 "EventLedger$Word" "code" "J") = true ∧ (Cond.fieldLink (ab_own k) (ab_ax k i).2.1 "EventLedger$Word" "code" "J") ∈ ab_NW) := by
      dsimp only at hw1
      rw [h0] at hw1
      exact hw1
    rcases hw2 with h | h
    · exact vk_getf C.1 C.2.1 hF hS C.2.2.2.1 (C.2.2.2.2.1 _ h.2) (fun _ h => h) hd kk
    · exact absurd h.1 (by simp [ab_isN])
  · have h1 : (ab_ax k i).2.2.2 = 1 := by omega
    have hw2 : (goodWord (Cond.fieldLinkNest (ab_own k) (ab_ax k i).2.1 "EventLedger$Word" "code" "J" "EventLedger") = true ∧ (Cond.fieldLinkNest (ab_own k) (ab_ax k i).2.1 "EventLedger$Word" "code" "J" "EventLedger") ∈ ab_TB) ∨ (ab_isN (Cond.fieldLinkNest (ab_own k) (ab_ax k i).2.1 "EventLedger$Word" "code" "J" "EventLedger") = true ∧ (Cond.fieldLinkNest (ab_own k) (ab_ax k i).2.1 "EventLedger$Word" "code" "J" "EventLedger") ∈ ab_NW) := by
      dsimp only at hw1
      rw [h1] at hw1
      exact hw1
    rcases hw2 with h | h
    · exact absurd h.1 (by simp [goodWord, Cond.onTables, Cond.keeps, Cond.steady])
    · exact ab_getfN C.1 C.2.1 hF hS C.2.2.2.1 (va_Nw.use rfl (C.2.2.2.2.2.1.1 _ h.2)) hd kk
theorem ab_p65_2 {i nx : Nat} {b : Int} {L : ab_F} {st : List ab_V} {w : ab_W} {x : Int} (C : ab_Cx D cA bnd aS SL xs k p R s m args meth c) (ho : ab_nth (ab_cod k) i = some (65, 2, b, nx)) (hx : x ≤ -5 ∧ -21 ≤ x) (kk : ab_WW p l e R s m args below meth c Q D cA bnd aS SL xs K0 S0 k nx L ((0, ((ab_nth ab_wt (-5 - x).toNat).getD (0, 0, 0)).2.1) :: st) w) : ab_WW p l e R s m args below meth c Q D cA bnd aS SL xs K0 S0 k i L ((2, x) :: st) w := by
  intro H locs ls hw hS hl
  obtain ⟨hd, hsc, hp⟩ := ab_dec1 ho (by decide) rfl rfl
  have kk := kk H locs ls hw hS hl
  rw [hp] at kk
  have hw1 := ab_nw_ok ho (List.mem_cons_self)
  simp only [Bool.and_eq_true] at hsc
  have hfl : (ab_ax k i).2.2.2 < 2 := ab_blt hsc.2
  obtain ⟨j, hj, hxj, hj2⟩ := ab_word hx
  have hF := (((C.2.2.2.2.2.2.2.2.2.2.2.2.1).2.2.2.2.2.1 j hj).2.2.2.1)
  rw [hj2] at kk
  have hax : ab_ad bnd aS x = aS (-5 - (j : Int)) := by rw [ab_ad_neg (by omega), hxj]
  simp only [List.map_cons, ab_cv, hax] at kk ⊢
  by_cases h0 : (ab_ax k i).2.2.2 = 0
  · have hw2 : (goodWord (Cond.fieldLink (ab_own k) (ab_ax k i).2.1 "EventLedger$Word" "kind" "I") = true ∧ (Cond.fieldLink (ab_own k) (ab_ax k i).2.1 "EventLedger$Word" "kind" "I") ∈ ab_TB) ∨ (ab_isN (Cond.fieldLink (ab_own k) (ab_ax k i).2.1 "EventLedger$Word" "kind" "I") = true ∧ (Cond.fieldLink (ab_own k) (ab_ax k i).2.1 "EventLedger$Word" "kind" "I") ∈ ab_NW) := by
      dsimp only at hw1
      rw [h0] at hw1
      exact hw1
    rcases hw2 with h | h
    · exact vk_getf C.1 C.2.1 hF hS C.2.2.2.1 (C.2.2.2.2.1 _ h.2) (fun _ h => h) hd kk
    · exact absurd h.1 (by simp [ab_isN])
  · have h1 : (ab_ax k i).2.2.2 = 1 := by omega
    have hw2 : (goodWord (Cond.fieldLinkNest (ab_own k) (ab_ax k i).2.1 "EventLedger$Word" "kind" "I" "EventLedger") = true ∧ (Cond.fieldLinkNest (ab_own k) (ab_ax k i).2.1 "EventLedger$Word" "kind" "I" "EventLedger") ∈ ab_TB) ∨ (ab_isN (Cond.fieldLinkNest (ab_own k) (ab_ax k i).2.1 "EventLedger$Word" "kind" "I" "EventLedger") = true ∧ (Cond.fieldLinkNest (ab_own k) (ab_ax k i).2.1 "EventLedger$Word" "kind" "I" "EventLedger") ∈ ab_NW) := by
      dsimp only at hw1
      rw [h1] at hw1
      exact hw1
    rcases hw2 with h | h
    · exact absurd h.1 (by simp [goodWord, Cond.onTables, Cond.keeps, Cond.steady])
    · exact ab_getfN C.1 C.2.1 hF hS C.2.2.2.1 (va_Nw.use rfl (C.2.2.2.2.2.1.1 _ h.2)) hd kk
theorem ab_p65_3 {i nx : Nat} {b : Int} {L : ab_F} {st : List ab_V} {w : ab_W} {x : Int} (C : ab_Cx D cA bnd aS SL xs k p R s m args meth c) (ho : ab_nth (ab_cod k) i = some (65, 3, b, nx)) (hx : x ≤ -5 ∧ -21 ≤ x) (kk : ab_WW p l e R s m args below meth c Q D cA bnd aS SL xs K0 S0 k nx L ((0, ((ab_nth ab_wt (-5 - x).toNat).getD (0, 0, 0)).2.2) :: st) w) : ab_WW p l e R s m args below meth c Q D cA bnd aS SL xs K0 S0 k i L ((2, x) :: st) w := by
  intro H locs ls hw hS hl
  obtain ⟨hd, hsc, hp⟩ := ab_dec1 ho (by decide) rfl rfl
  have kk := kk H locs ls hw hS hl
  rw [hp] at kk
  have hw1 := ab_nw_ok ho (List.mem_cons_self)
  simp only [Bool.and_eq_true] at hsc
  have hfl : (ab_ax k i).2.2.2 < 2 := ab_blt hsc.2
  obtain ⟨j, hj, hxj, hj2⟩ := ab_word hx
  have hF := (((C.2.2.2.2.2.2.2.2.2.2.2.2.1).2.2.2.2.2.1 j hj).2.2.2.2)
  rw [hj2] at kk
  have hax : ab_ad bnd aS x = aS (-5 - (j : Int)) := by rw [ab_ad_neg (by omega), hxj]
  simp only [List.map_cons, ab_cv, hax] at kk ⊢
  by_cases h0 : (ab_ax k i).2.2.2 = 0
  · have hw2 : (goodWord (Cond.fieldLink (ab_own k) (ab_ax k i).2.1 "EventLedger$Word" "op" "I") = true ∧ (Cond.fieldLink (ab_own k) (ab_ax k i).2.1 "EventLedger$Word" "op" "I") ∈ ab_TB) ∨ (ab_isN (Cond.fieldLink (ab_own k) (ab_ax k i).2.1 "EventLedger$Word" "op" "I") = true ∧ (Cond.fieldLink (ab_own k) (ab_ax k i).2.1 "EventLedger$Word" "op" "I") ∈ ab_NW) := by
      dsimp only at hw1
      rw [h0] at hw1
      exact hw1
    rcases hw2 with h | h
    · exact vk_getf C.1 C.2.1 hF hS C.2.2.2.1 (C.2.2.2.2.1 _ h.2) (fun _ h => h) hd kk
    · exact absurd h.1 (by simp [ab_isN])
  · have h1 : (ab_ax k i).2.2.2 = 1 := by omega
    have hw2 : (goodWord (Cond.fieldLinkNest (ab_own k) (ab_ax k i).2.1 "EventLedger$Word" "op" "I" "EventLedger") = true ∧ (Cond.fieldLinkNest (ab_own k) (ab_ax k i).2.1 "EventLedger$Word" "op" "I" "EventLedger") ∈ ab_TB) ∨ (ab_isN (Cond.fieldLinkNest (ab_own k) (ab_ax k i).2.1 "EventLedger$Word" "op" "I" "EventLedger") = true ∧ (Cond.fieldLinkNest (ab_own k) (ab_ax k i).2.1 "EventLedger$Word" "op" "I" "EventLedger") ∈ ab_NW) := by
      dsimp only at hw1
      rw [h1] at hw1
      exact hw1
    rcases hw2 with h | h
    · exact absurd h.1 (by simp [goodWord, Cond.onTables, Cond.keeps, Cond.steady])
    · exact ab_getfN C.1 C.2.1 hF hS C.2.2.2.1 (va_Nw.use rfl (C.2.2.2.2.2.1.1 _ h.2)) hd kk
theorem ab_p67 {i a nx : Nat} {b : Int} {L : ab_F} {st : List ab_V} {w : ab_W} {j : Int} (C : ab_Cx D cA bnd aS SL xs k p R s m args meth c) (ho : ab_nth (ab_cod k) i = some (67, a, b, nx)) (hj : 0 ≤ j ∧ j < w.2.2.2 (-2) (-1)) (kk : ab_WW p l e R s m args below meth c Q D cA bnd aS SL xs K0 S0 k nx L ((0, w.2.2.1 (-2) j) :: st) w) : ab_WW p l e R s m args below meth c Q D cA bnd aS SL xs K0 S0 k i L ((0, j) :: (2, -2) :: st) w := by
  intro H locs ls hw hS hl
  obtain ⟨hd, hsc, hp⟩ := ab_dec1 ho (by decide) rfl rfl
  have kk := kk H locs ls hw hS hl
  rw [hp] at kk
  have hSF := (C.2.2.2.2.2.2.2.2.2.2.2.2.1).2.2.2.2.2.2
  have hlen := hw.2.2.2.2.2.2
  have hSL := C.2.2.2.2.2.2.2.2.2.2.2.2.2
  obtain ⟨e1, e2⟩ := ab_ix (n := (SL : Int)) hj.1 (by rw [← hlen]; exact hj.2) (by omega)
  refine va_sld C.1 C.2.1 hSF.1 (Nat.lt_of_lt_of_le hSF.2.1 C.2.2.2.2.2.2.2.1) (Nat.not_le.mpr hSF.2.1) hS e2 hd ?_
  have hx := hw.2.2.2.2.2.1 j.toNat (by rw [hlen] at hj; omega)
  rw [Int.toNat_of_nonneg hj.1] at hx
  rw [e1, ← hx]
  exact kk
theorem ab_p68 {i a nx : Nat} {b : Int} {L : ab_F} {st : List ab_V} {w : ab_W}  (C : ab_Cx D cA bnd aS SL xs k p R s m args meth c) (ho : ab_nth (ab_cod k) i = some (68, a, b, nx))  (kk : ab_WW p l e R s m args below meth c Q D cA bnd aS SL xs K0 S0 k nx L ((0, w.2.2.2 (-2) (-1)) :: st) w) : ab_WW p l e R s m args below meth c Q D cA bnd aS SL xs K0 S0 k i L ((2, -2) :: st) w := by
  intro H locs ls hw hS hl
  obtain ⟨hd, hsc, hp⟩ := ab_dec1 ho (by decide) rfl rfl
  have kk := kk H locs ls hw hS hl
  rw [hp] at kk
  have hSF := (C.2.2.2.2.2.2.2.2.2.2.2.2.1).2.2.2.2.2.2
  have hlen := hw.2.2.2.2.2.2
  refine va_slen C.1 C.2.1 hSF.1 (Nat.lt_of_lt_of_le hSF.2.1 C.2.2.2.2.2.2.2.1) (Nat.not_le.mpr hSF.2.1) hS hd ?_
  rw [hlen] at kk
  rw [← Int32.ofInt_eq_ofNat]
  exact kk
theorem ab_cat_map (ad : Int → Nat) : ∀ st : List ab_V, ((st.map (ab_cv ad)).map fun v => v.category).sum = ab_cat st := by
  intro st
  induction st with
  | nil => rfl
  | cons v t ih =>
    have h1 : (ab_cv ad v).category = cond (Nat.beq v.1 1) 2 1 := by
      obtain ⟨q, x⟩ := v
      match q with
      | 0 => rfl
      | 1 => rfl
      | n + 2 => rfl
    simp only [List.map_cons, List.sum_cons, ih, h1, ab_cat]
theorem ab_w_max : ab_gw ab_p_max_static = some (.static Lib.Math.max.name) ∧ ab_gw ab_p_math_ini = some (.initialized "java/lang/Math") ∧ ab_gw ab_p_max_code = some (.code Lib.Math.max.name Lib.Math.max.code 2 (some .int)) := ⟨rfl, rfl, rfl⟩
theorem ab_w_min : ab_gw ab_p_min_static = some (.static Lib.Math.min.name) ∧ ab_gw ab_p_min_code = some (.code Lib.Math.min.name Lib.Math.min.code 2 (some .int)) := ⟨rfl, rfl⟩
theorem ab_w_cpy : ab_gw ab_p_cpy_native = some (.native arraycopyName) ∧ ab_gw ab_p_cpy_static = some (.static arraycopyName) ∧ ab_gw ab_p_sys_ini = some (.initialized "java/lang/System") := ⟨rfl, rfl, rfl⟩
theorem ab_w_obj : ab_gw ab_p_obj_inst = some (.instanceMethod Lib.objectInit) ∧ ab_gw ab_p_obj_code = some (.code Lib.objectInit ⟨#[0xb1]⟩ 1 none) := ⟨rfl, rfl⟩
theorem ab_p55 {i a nx : Nat} {b : Int} {L : ab_F} {st : List ab_V} {w : ab_W} {x y : Int} (C : ab_Cx D cA bnd aS SL xs k p R s m args meth c) (ho : ab_nth (ab_cod k) i = some (55, a, b, nx)) (hcat : ab_cat st ≤ 8) (hcl : (w.1 - K0).toNat ≤ R.cells ∧ w.2.1 - S0 ≤ R.slots) (kk : ab_WW p l e R s m args below meth c Q D cA bnd aS SL xs K0 S0 k nx L ((0, ab_max x y) :: st) w) : ab_WW p l e R s m args below meth c Q D cA bnd aS SL xs K0 S0 k i L ((0, y) :: (0, x) :: st) w := by
  intro H locs ls hw hS hl
  obtain ⟨hd, hsc, hp⟩ := ab_dec1 ho (by decide) rfl rfl
  have kk := kk H locs ls hw hS hl
  rw [hp] at kk
  have hdp := Nat.le_of_ble_eq_true hsc
  have hlink : (Cond.methodLink (ab_own k) (ab_ax k i).2.1 Lib.Math.max.name) ∈ ab_TB := (ab_nw_ok ho List.mem_cons_self).elim (fun h => h.2) (fun h => absurd h.1 (by simp [ab_isN]))
  have hfr := C.2.2.2.2.2.2.2.2.1
  have hlo := C.2.2.2.2.2.2.2.2.2.1
  refine va_mmax C.1 C.2.1 (C.2.2.1.trans hl.1.symm) C.2.2.2.1 (C.2.2.2.2.1 _ hlink) (C.2.2.2.2.1 _ (ab_in_TB ab_w_max.1 rfl)) (C.2.2.2.2.1 _ (ab_in_TB ab_w_max.2.1 rfl)) (C.2.2.2.2.1 _ (ab_in_TB ab_w_max.2.2 rfl)) (by omega) (by rw [ab_cat_map]; omega) hcl.1 hcl.2 hd ?_
  have hm : (if Int32.ofInt x < Int32.ofInt y then Int32.ofInt y else Int32.ofInt x) = Int32.ofInt (ab_max x y) := by
    unfold ab_max
    simp only [ab_lt]
    split <;> rfl
  rw [hm]
  exact kk
theorem ab_p56 {i a nx : Nat} {b : Int} {L : ab_F} {st : List ab_V} {w : ab_W} {x y : Int} (C : ab_Cx D cA bnd aS SL xs k p R s m args meth c) (ho : ab_nth (ab_cod k) i = some (56, a, b, nx)) (hcat : ab_cat st ≤ 8) (hcl : (w.1 - K0).toNat ≤ R.cells ∧ w.2.1 - S0 ≤ R.slots) (kk : ab_WW p l e R s m args below meth c Q D cA bnd aS SL xs K0 S0 k nx L ((0, ab_min x y) :: st) w) : ab_WW p l e R s m args below meth c Q D cA bnd aS SL xs K0 S0 k i L ((0, y) :: (0, x) :: st) w := by
  intro H locs ls hw hS hl
  obtain ⟨hd, hsc, hp⟩ := ab_dec1 ho (by decide) rfl rfl
  have kk := kk H locs ls hw hS hl
  rw [hp] at kk
  have hdp := Nat.le_of_ble_eq_true hsc
  have hlink : (Cond.methodLink (ab_own k) (ab_ax k i).2.1 Lib.Math.min.name) ∈ ab_TB := (ab_nw_ok ho List.mem_cons_self).elim (fun h => h.2) (fun h => absurd h.1 (by simp [ab_isN]))
  have hfr := C.2.2.2.2.2.2.2.2.1
  have hlo := C.2.2.2.2.2.2.2.2.2.1
  refine va_mmin C.1 C.2.1 (C.2.2.1.trans hl.1.symm) C.2.2.2.1 (C.2.2.2.2.1 _ hlink) (C.2.2.2.2.1 _ (ab_in_TB ab_w_min.1 rfl)) (C.2.2.2.2.1 _ (ab_in_TB ab_w_max.2.1 rfl)) (C.2.2.2.2.1 _ (ab_in_TB ab_w_min.2 rfl)) (by omega) (by rw [ab_cat_map]; omega) hcl.1 hcl.2 hd ?_
  have hm : (if Int32.ofInt y < Int32.ofInt x then Int32.ofInt y else Int32.ofInt x) = Int32.ofInt (ab_min x y) := by
    unfold ab_min
    simp only [ab_lt]
    split <;> rfl
  rw [hm]
  exact kk
theorem ab_p58 {i a nx : Nat} {b : Int} {L : ab_F} {st : List ab_V} {w : ab_W} {x : Int} (C : ab_Cx D cA bnd aS SL xs k p R s m args meth c) (ho : ab_nth (ab_cod k) i = some (58, a, b, nx)) (hcat : ab_cat st ≤ 8) (kk : ab_WW p l e R s m args below meth c Q D cA bnd aS SL xs K0 S0 k nx L st w) : ab_WW p l e R s m args below meth c Q D cA bnd aS SL xs K0 S0 k i L ((2, x) :: st) w := by
  intro H locs ls hw hS hl
  obtain ⟨hd, hsc, hp⟩ := ab_dec1 ho (by decide) rfl rfl
  have kk := kk H locs ls hw hS hl
  rw [hp] at kk
  have hdp := Nat.le_of_ble_eq_true hsc
  have hlink : (Cond.methodLink (ab_own k) (ab_ax k i).2.1 Lib.objectInit) ∈ ab_TB := (ab_nw_ok ho List.mem_cons_self).elim (fun h => h.2) (fun h => absurd h.1 (by simp [ab_isN]))
  have hfr := C.2.2.2.2.2.2.2.2.1
  have hlo := C.2.2.2.2.2.2.2.2.2.1
  have hroom := lv_room (m := m) (pc := ab_pc k i) (ls := ls) (rest := (Value.ref (ab_ad bnd aS x)) :: st.map (ab_cv (ab_ad bnd aS))) (st := st.map (ab_cv (ab_ad bnd aS))) (by rw [ab_cat_map]; exact hcat)
  exact W.objInit C.1 C.2.1 C.2.2.2.1 (C.2.2.2.2.1 _ hlink) (C.2.2.2.2.1 _ (ab_in_TB ab_w_obj.1 rfl)) (C.2.2.2.2.1 _ (ab_in_TB ab_w_obj.2 rfl)) rfl (hl.1.trans C.2.2.1.symm) rfl hd (by omega) (Nat.le_trans (Nat.add_le_add_right hroom 12) (by omega)) kk
/-- the world as a list, for a row that wants all of it -/
def ab_wl (bnd : Nat) (aS : Int → Nat) (cA : Nat → ClassId) (w : ab_W) : va_W := (List.range w.1.toNat).map fun n => (bnd + n, ab_ce (ab_ad bnd aS) cA w.2.2.1 w.2.2.2 (n : Int))
theorem ab_wl_at {w : ab_W} {x : Int} (h0 : 0 ≤ x) (h1 : x < w.1) : (ab_wl bnd aS cA w)[x.toNat]? = some (ab_ad bnd aS x, ab_ce (ab_ad bnd aS) cA w.2.2.1 w.2.2.2 x) := by
  have h2 : x.toNat < w.1.toNat := by omega
  simp [ab_wl, List.getElem?_map, List.getElem?_range, h2, ab_ad_nn h0, Int.toNat_of_nonneg h0]
theorem ab_wl_inv {w : ab_W} {n : Nat} {q : Nat × va_E} (h : (ab_wl bnd aS cA w)[n]? = some q) : n < w.1.toNat ∧ q = (bnd + n, ab_ce (ab_ad bnd aS) cA w.2.2.1 w.2.2.2 (n : Int)) := by
  have h1 : n < w.1.toNat := by
    have := (List.getElem?_eq_some_iff.mp h).1
    simpa [ab_wl] using this
  refine ⟨h1, ?_⟩
  simp [ab_wl, List.getElem?_map, List.getElem?_range, h1] at h
  exact h.symm
theorem ab_p57 {i a nx : Nat} {b : Int} {L : ab_F} {st : List ab_V} {w : ab_W} {x y n sp dp : Int} (C : ab_Cx D cA bnd aS SL xs k p R s m args meth c) (ho : ab_nth (ab_cod k) i = some (57, a, b, nx)) (hx : (ab_kd x).1 = 100 ∧ 0 ≤ x ∧ x < w.1) (hy : (ab_kd y).1 = 100 ∧ 0 ≤ y ∧ y < w.1) (hcat : ab_cat st ≤ 8) (hxy : x ≠ y) (h186 : 186 ≤ w.1) (hn0 : 0 ≤ n) (hsp : 0 ≤ sp) (hdp : 0 ≤ dp) (h1 : sp + n ≤ (ab_kd x).2) (h2 : dp + n ≤ (ab_kd y).2) (kk : ab_WW p l e R s m args below meth c Q D cA bnd aS SL xs K0 S0 k nx L st (w.1, w.2.1, ab_cpy w.2.2.1 x sp y dp n, w.2.2.2)) : ab_WW p l e R s m args below meth c Q D cA bnd aS SL xs K0 S0 k i L ((0, n) :: (0, dp) :: (2, y) :: (0, sp) :: (2, x) :: st) w := by
  intro H locs ls hw hS hl
  obtain ⟨hd, hsc, hp⟩ := ab_dec1 ho (by decide) rfl rfl
  have hdpt := Nat.le_of_ble_eq_true hsc
  have hlink : (Cond.methodLink (ab_own k) (ab_ax k i).2.1 arraycopyName) ∈ ab_TB := (ab_nw_ok ho List.mem_cons_self).elim (fun h => h.2) (fun h => absurd h.1 (by simp [ab_isN]))
  have hfr := C.2.2.2.2.2.2.2.2.1
  have hlo := C.2.2.2.2.2.2.2.2.2.1
  have hb1 := (ab_kd_in (a := x)).2.2.1
  have hb2 := (ab_kd_in (a := y)).2.2.1
  have f1 : ∀ z : Int, 0 ≤ z → z < 1000000 → (Int32.ofInt z).toNatClampNeg = z.toNat ∧ ¬ Int32.ofInt z < 0 := by
    intro z hz0 hz1
    have h : (Int32.ofInt z).toInt = z := by rw [ab_i32, wr_of (by omega) (by omega)]
    refine ⟨by show (Int32.ofInt z).toInt.toNat = _; rw [h], ?_⟩
    rw [Int32.lt_iff_toInt_lt, h]
    show ¬ z < 0
    omega
  obtain ⟨esp, nsp⟩ := f1 sp hsp (by omega)
  obtain ⟨edp, ndp⟩ := f1 dp hdp (by omega)
  obtain ⟨en, nn⟩ := f1 n hn0 (by omega)
  have hPl : va_P D ab_clsK (ab_wl bnd aS cA w) H := by
    intro q z hz
    obtain ⟨q1, rfl⟩ := ab_wl_inv hz
    have := hw.1 (q : Int) (by omega) (by omega)
    exact this
  have hDl : va_D (fun q => bnd ≤ q) (ab_wl bnd aS cA w) := by
    refine ⟨fun u v pu pv hu hv huv => ?_, fun u q hu => ?_⟩
    · obtain ⟨-, rfl⟩ := ab_wl_inv hu
      obtain ⟨-, rfl⟩ := ab_wl_inv hv
      dsimp only at huv
      omega
    · obtain ⟨-, rfl⟩ := ab_wl_inv hu
      show bnd ≤ bnd + u
      omega
  have hax := ab_wl_at (bnd := bnd) (aS := aS) (cA := cA) hx.2.1 hx.2.2
  have hay := ab_wl_at (bnd := bnd) (aS := aS) (cA := cA) hy.2.1 hy.2.2
  rw [ab_ce_ar (t := 0) (by rw [hx.1]; rfl) (by decide)] at hax
  rw [ab_ce_ar (t := 0) (by rw [hy.1]; rfl) (by decide)] at hay
  refine va_copyi (D := D) (cl := ab_clsK) (tys := ab_tys cA) C.1 C.2.1 (C.2.2.1.trans hl.1.symm) C.2.2.2.1 (C.2.2.2.2.1 _ hlink) (C.2.2.2.2.1 _ (ab_in_TB ab_w_cpy.1 rfl)) (C.2.2.2.2.1 _ (ab_in_TB ab_w_cpy.2.1 rfl)) (C.2.2.2.2.1 _ (ab_in_TB ab_w_cpy.2.2 rfl)) C.2.2.2.2.2.2.2.2.2.2.1 hPl hDl hS x.toNat y.toNat 0 0 hax hay rfl rfl rfl nsp ndp nn (by rw [esp, en]; omega) (by rw [edp, en]; omega) (fun _ _ => rfl) (by omega) (by rw [ab_cat_map]; show _ + (7 + 11) ≤ _; omega) hd (fun H1 locs1 hP1 hD1 hS1 => ?_)
  have hw1 : ab_HW D cA bnd aS SL xs (w.1, w.2.1, ab_cpy w.2.2.1 x sp y dp n, w.2.2.2) H1 := by
    refine ⟨fun q hq0 hq1 => ?_, fun h => absurd h (by show ¬ w.1 < 186; omega), Nat.le_trans C.2.2.2.2.2.2.2.1 hS1.1, hw.2.2.2.1, hw.2.2.2.2.1, ?_, hw.2.2.2.2.2.2⟩
    · by_cases hqy : q = y
      · subst hqy
        have h3 := hP1 q.toNat _ (List.getElem?_set_self (by have := (List.getElem?_eq_some_iff.mp hay).1; exact this))
        have h4 : ab_ce (ab_ad bnd aS) cA (ab_cpy w.2.2.1 x sp q dp n) w.2.2.2 q = .inl (cA 0, (ab_kd q).2.toNat, .inl (va_cpy (fun j => Int32.ofInt (w.2.2.1 x j)) (fun j => Int32.ofInt (w.2.2.1 q j)) (Int32.ofInt sp).toNatClampNeg (Int32.ofInt dp).toNatClampNeg (Int32.ofInt n).toNatClampNeg)) := by
          rw [ab_ce_ar (t := 0) (by rw [hy.1]; rfl) (by decide)]
          congr 3
          rw [esp, edp, en]
          congr 1
          funext j
          unfold va_cpy ab_cpy
          by_cases hj : dp ≤ (j : Int) ∧ (j : Int) < dp + n
          · rw [if_pos ⟨rfl, hj.1, hj.2⟩, if_pos (by omega)]
            show Int32.ofInt _ = Int32.ofInt (w.2.2.1 x ((sp.toNat + (j - dp.toNat) : Nat) : Int))
            rw [show ((sp.toNat + (j - dp.toNat) : Nat) : Int) = sp + ((j : Int) - dp) by omega]
          · rw [if_neg (fun h => hj h.2), if_neg (by omega)]
        show va_at D ab_clsK (_, ab_ce _ _ (ab_cpy w.2.2.1 x sp q dp n) w.2.2.2 q) H1
        rw [h4]
        exact h3
      · have h3 := hP1 q.toNat _ (by rw [List.getElem?_set_ne (by omega)]; exact ab_wl_at hq0 hq1)
        show va_at D ab_clsK (_, ab_ce _ _ (ab_cpy w.2.2.1 x sp y dp n) w.2.2.2 q) H1
        rw [ab_ce_congr (g := w.2.2.1) (by funext j; simp [ab_cpy, hqy]) rfl]
        exact h3
    · intro j hj
      show Int32.ofInt (ab_cpy w.2.2.1 x sp y dp n (-2) j) = xs j
      rw [show ab_cpy w.2.2.1 x sp y dp n (-2) j = w.2.2.1 (-2) j by simp only [ab_cpy]; rw [if_neg (by omega)]]
      exact hw.2.2.2.2.2.1 j hj
  have kk := kk H1 locs1 ls hw1 hS1 hl
  rwa [hp] at kk
end AbBr
end
section
section AbOpen
variable {p : Program} {l : Launch} {e : Env} {R : Room} {s : State} {m : MethodId} {args : Array Value} {below : List Frame} {meth : Method} {c : Code} {Q : State → Prop} {D : va_G} {cA : Nat → ClassId} {bnd : Nat} {aS : Int → Nat} {SL : Nat} {xs : Nat → Int32} {K0 : Int} {S0 : Nat} {k : Nat}
theorem ab_p19 {i a nx : Nat} {b : Int} {L : ab_F} {st : List ab_V} {w : ab_W} {x y : Int} (C : ab_Cx D cA bnd aS SL xs k p R s m args meth c) (ho : ab_nth (ab_cod k) i = some (19, a, b, nx)) (hy : ¬ wr y = 0) (kk : ab_WW p l e R s m args below meth c Q D cA bnd aS SL xs K0 S0 k nx L ((0, ab_rem x y) :: st) w) : ab_WW p l e R s m args below meth c Q D cA bnd aS SL xs K0 S0 k i L ((0, y) :: (0, x) :: st) w := by
  intro H locs ls hw hS hl
  obtain ⟨hd, -, hp⟩ := ab_dec1 ho (by decide) rfl rfl
  have kk := kk H locs ls hw hS hl
  rw [hp] at kk
  simp only [List.map_cons, ab_cv, ab_rem, Int32.ofInt_toInt] at kk ⊢
  exact lv_irem C.1 C.2.1 hd (fun h => hy ((ab_eq y 0).mp h)) kk
theorem ab_p53 {i a nx : Nat} {b : Int} {L : ab_F} {st : List ab_V} {w : ab_W} {n : Int} (C : ab_Cx D cA bnd aS SL xs k p R s m args meth c) (ho : ab_nth (ab_cod k) i = some (53, a, b, nx)) (hkd : ab_kd w.1 = (100 + (a : Int), n)) (h0 : 0 ≤ w.1) (hn0 : 0 ≤ n) (hn1 : n < 100000) (hr1 : (w.1 + 1 - K0).toNat ≤ R.cells) (hr2 : w.2.1 + n.toNat - S0 ≤ R.slots) (hk0 : K0 ≤ w.1) (hs0 : S0 ≤ w.2.1) (kk : ab_WW p l e R s m args below meth c Q D cA bnd aS SL xs K0 S0 k nx L ((2, w.1) :: st) (w.1 + 1, w.2.1 + n.toNat, ab_new w.2.2.1 w.1 0, ab_new w.2.2.2 w.1 (-1))) : ab_WW p l e R s m args below meth c Q D cA bnd aS SL xs K0 S0 k i L ((0, n) :: st) w := by
  obtain ⟨-, hsc, -⟩ := ab_dec1 ho (by decide) rfl rfl
  have ha : a < 4 := ab_blt hsc
  match a, ha, ho, hkd with
  | 0, _, ho, hkd => exact ab_p53_0 C ho hkd h0 hn0 hn1 hr1 hr2 hk0 hs0 kk
  | 1, _, ho, hkd => exact ab_p53_1 C ho hkd h0 hn0 hn1 hr1 hr2 hk0 hs0 kk
  | 2, _, ho, hkd => exact ab_p53_2 C ho hkd h0 hn0 hn1 hr1 hr2 hk0 hs0 kk
  | 3, _, ho, hkd => exact ab_p53_3 C ho hkd h0 hn0 hn1 hr1 hr2 hk0 hs0 kk
theorem ab_p65 {i a nx : Nat} {b : Int} {L : ab_F} {st : List ab_V} {w : ab_W} {x : Int} (C : ab_Cx D cA bnd aS SL xs k p R s m args meth c) (ho : ab_nth (ab_cod k) i = some (65, a, b, nx)) (hx : x ≤ -5 ∧ -21 ≤ x) (kk : ab_WW p l e R s m args below meth c Q D cA bnd aS SL xs K0 S0 k nx L (ab_wv a x :: st) w) : ab_WW p l e R s m args below meth c Q D cA bnd aS SL xs K0 S0 k i L ((2, x) :: st) w := by
  obtain ⟨-, hsc, -⟩ := ab_dec1 ho (by decide) rfl rfl
  simp only [Bool.and_eq_true] at hsc
  have h1 := Nat.le_of_ble_eq_true hsc.1.1
  have h3 := Nat.le_of_ble_eq_true hsc.1.2
  match a, h1, h3, ho, kk with
  | 1, _, _, ho, kk => exact ab_p65_1 C ho hx kk
  | 2, _, _, ho, kk => exact ab_p65_2 C ho hx kk
  | 3, _, _, ho, kk => exact ab_p65_3 C ho hx kk
end AbOpen
end
section
/-! THE ABSTRACT MACHINE IS SOUND, part 6: calls. -/
def ab_ws (k : Nat) : List Cond := .code (ab_yn k) (ab_bts k) (ab_mxl k) (ab_rty k) :: ab_TB
def ab_rm (k mc ms : Nat) : Room := { frames := ab_dep k, cells := mc, slots := ms, locals := 38 * ab_dep k + 2 }
def ab_Pc (D : va_G) (cA : Nat → ClassId) (bnd : Nat) (aS : Int → Nat) (SL : Nat) (xs : Nat → Int32) (av : List ab_V) (w : ab_W) : Array Value → State → Prop := fun a U =>
  a = (av.map (ab_cv (ab_ad bnd aS))).toArray ∧ ab_HW D cA bnd aS SL xs w U.heap ∧ ((∀ z ∈ ab_NW, va_Nw z U) ∧ ab_SR aS U) ∧ va_K D ab_clsK (ab_tys cA) U ∧ va_AO "EventLedger$Mark" U ∧ ab_SF bnd aS SL xs U U.heap ∧ SL < 1000000
def ab_Qc (D : va_G) (cA : Nat → ClassId) (bnd : Nat) (aS : Int → Nat) (SL : Nat) (xs : Nat → Int32) (v : List ab_V) (w : ab_W) : Array Value → State → Outcome → State → Prop := fun _ st oc t =>
  oc = .returned (v.map (ab_cv (ab_ad bnd aS))).head? ∧ ab_HW D cA bnd aS SL xs w t.heap ∧ va_F (fun q => bnd ≤ q) st t
theorem ab_SF_moved {bnd : Nat} {aS : Int → Nat} {SL : Nat} {xs : Nat → Int32} {u U : State} {H : Heap} (hvm : u.vm.Alike U.vm) (h : ab_SF bnd aS SL xs u H) : ab_SF bnd aS SL xs U H := by
  obtain ⟨h1, h2, h3, h4, h5, h6, h7, h8, h9⟩ := h
  exact ⟨h1.moved hvm, h2.moved hvm, h3.moved hvm, h4.moved hvm, h5.moved hvm, fun j hj => ⟨(h6 j hj).1.moved hvm, (h6 j hj).2.1.moved hvm, (h6 j hj).2.2.1.moved hvm, (h6 j hj).2.2.2.1.moved hvm, (h6 j hj).2.2.2.2.moved hvm⟩, h7.moved hvm, h8, h9.moved hvm⟩
theorem ab_SF_kept {bnd : Nat} {aS : Int → Nat} {SL : Nat} {xs : Nat → Int32} {U : State} {H H1 : Heap} (hb : bnd ≤ H.size) (h : ab_SF bnd aS SL xs U H) (hq : ∀ a : Nat, a < H.size → ¬ bnd ≤ a → H1[a]? = H[a]?) : ab_SF bnd aS SL xs U H1 := by
  obtain ⟨h1, h2, h3, h4, h5, h6, h7, h8, h9⟩ := h
  exact ⟨h1.kept hq, h2.kept hq, h3.kept hq, h4.kept hq, h5.kept hq, fun j hj => ⟨(h6 j hj).1.kept hq, (h6 j hj).2.1.kept hq, (h6 j hj).2.2.1.kept hq, (h6 j hj).2.2.2.1.kept hq, (h6 j hj).2.2.2.2.kept hq⟩, h7.kept (hq _ (by omega) (by omega)), h8, h9.kept hq⟩
theorem ab_NW_same {u U : State} (h : u.vm = U.vm) (hN : ∀ z ∈ ab_NW, va_Nw z u) : ∀ z ∈ ab_NW, va_Nw z U := by
  intro z hz
  have h1 := (List.mem_filter.mp hz).2
  cases z <;> first
    | exact va_Nw.same rfl h (hN _ hz)
    | (simp [ab_isN] at h1)
theorem ab_NW_warm {s U : State} (h : s.WarmedH U.vm) (hN : ∀ z ∈ ab_NW, va_Nw z s) : ∀ z ∈ ab_NW, va_Nw z U := by
  intro z hz
  have h1 := (List.mem_filter.mp hz).2
  cases z <;> first
    | exact va_Nw.warmF h (hN _ hz)
    | exact va_Nw.warmM h (hN _ hz)
    | (simp [ab_isN] at h1)
theorem ab_blind {D : va_G} {cA : Nat → ClassId} {bnd : Nat} {aS : Int → Nat} {SL : Nat} {xs : Nat → Int32} {av : List ab_V} {w : ab_W} : FrameBlind (ab_Pc D cA bnd aS SL xs av w) := by
  intro a U g mk h
  obtain ⟨h1, h2, h3, h4, h5, h6, h7⟩ := h
  exact ⟨h1, h2, ⟨ab_NW_same (u := U) (U := U.calling g mk a) rfl h3.1, h3.2.same rfl⟩, va_K.moved (u := U) (U := U.calling g mk a) (Vm.Alike.refl U.vm) h4, va_AO.moved (u := U) (U := U.calling g mk a) (Vm.Alike.refl U.vm) h5, ab_SF_moved (u := U) (U := U.calling g mk a) (Vm.Alike.refl U.vm) h6, h7⟩
theorem ab_goodIn {k : Nat} (hk : k < 245) : GoodIn ab_TB (ab_ws k) := by
  intro w hw
  rcases List.mem_cons.mp hw with rfl | hw
  · have h := ab_mw_ok hk (q := ((ab_m k).2.2.2.2.2.1, .code (ab_yn k) (ab_bts k) (ab_mxl k) (ab_rty k))) (by unfold ab_mw; exact List.mem_append_left _ List.mem_cons_self)
    exact ⟨h.2, good_of_word h.1⟩
  · exact ⟨hw, good_of_word (List.mem_filter.mp hw).2⟩
theorem ab_pc0C : (List.range 247).all (fun k => Nat.beq (ab_pc k 0) 0) = true := by decide +kernel
theorem ab_pc0 {k : Nat} (hk : k < 247) : ab_pc k 0 = 0 := Nat.eq_of_beq_eq_true (List.all_eq_true.mp ab_pc0C k (List.mem_range.mpr hk))
theorem ab_al_pad {ad : Int → Nat} : ∀ {n : Nat} {L : ab_F} {j : Nat} {q : Nat × Value}, q ∈ ab_al ad j (ab_pad n L) → q ∈ ab_al ad j L := by
  intro n
  induction n with
  | zero => intro L j q h; exact h
  | succ n ih =>
    intro L j q h
    cases L with
    | nil => exact ih (L := []) (j := j + 1) h
    | cons a t =>
      cases a with
      | none => exact ih (L := t) (j := j + 1) h
      | some u =>
        rcases List.mem_cons.mp h with rfl | h
        · exact List.mem_cons_self
        · exact List.mem_cons_of_mem _ (ih (L := t) (j := j + 1) h)
theorem ab_args (ad : Int → Nat) : ∀ (av : List ab_V) (j : Nat) {q : Nat × Value}, q ∈ ab_al ad j (ab_e0 av) → q ∈ lv_args j (av.map (ab_cv ad)) := by
  intro av
  induction av with
  | nil => intro j q h; cases h
  | cons v t ih =>
    intro j q h
    have hc := ab_cat2 ad v
    unfold ab_e0 at h
    simp only [List.map_cons, lv_args]
    cases hb : Nat.beq v.1 1 with
    | true =>
      rw [hb] at h
      have h1 : v.1 = 1 := Nat.eq_of_beq_eq_true hb
      rw [if_pos (hc.mpr h1)]
      rcases List.mem_cons.mp h with rfl | h
      · exact List.mem_cons_self
      · exact List.mem_cons_of_mem _ (ih (j + 2) h)
    | false =>
      rw [hb] at h
      have h1 : ¬ v.1 = 1 := fun h1 => by rw [h1] at hb; cases hb
      rw [if_neg (fun h2 => h1 (hc.mp h2))]
      rcases List.mem_cons.mp h with rfl | h
      · exact List.mem_cons_self
      · exact List.mem_cons_of_mem _ (ih (j + 1) h)
theorem ab_sl (ad : Int → Nat) : ∀ av : List ab_V, (lg_sl (av.map (ab_cv ad))).length = ab_cat av := by
  intro av
  induction av with
  | nil => rfl
  | cons v t ih =>
    have h := ab_cat_cv ad v
    unfold lg_sl at ih ⊢
    simp only [List.map_cons, List.flatMap_cons, List.length_append, ih, ab_cat]
    congr 1
    cases hb : Nat.beq v.1 1 with
    | true =>
      rw [hb] at h
      rw [if_pos (by simpa using h)]
      rfl
    | false =>
      rw [hb] at h
      rw [if_neg (by simpa using h)]
      rfl
/-- a method's contract out of the run of its code -/
theorem ab_met (l : Launch) {D : va_G} {cA : Nat → ClassId} {bnd : Nat} {aS : Int → Nat} {SL : Nat} {xs : Nat → Int32} {k : Nat} (hk : k < 245) {av v : List ab_V} {w w' : ab_W} (hcat : ab_cat av ≤ ab_mxl k)
    (hW : ∀ (p : Program) (e : Env) (s : State) (m : MethodId) (args : Array Value) (below : List Frame) (meth : Method) (c : Code), ab_Cx D cA bnd aS SL xs k p (ab_rm k (w'.1 - w.1).toNat (w'.2.1 - w.2.1)) s m args meth c → meth.locks = false → meth.sig.returnType = ab_rty k →
      ab_WW p l e (ab_rm k (w'.1 - w.1).toNat (w'.2.1 - w.2.1)) s m args below meth c (MQ below (ab_Qc D cA bnd aS SL xs v w') args s (w'.1 - w.1).toNat (w'.2.1 - w.2.1) (fun q => bnd ≤ q)) D cA bnd aS SL xs w.1 w.2.1 k 0 (ab_en k av) [] w) :
    Met l (ab_yn k) (ab_ws k) (ab_rm k (w'.1 - w.1).toNat (w'.2.1 - w.2.1)) (ab_Pc D cA bnd aS SL xs av w) (ab_Qc D cA bnd aS SL xs v w') (w'.1 - w.1).toNat (w'.2.1 - w.2.1) (fun q => bnd ≤ q) := by
  have hmk := ab_mk_ok hk
  simp only [ab_mk, Bool.and_eq_true, decide_eq_true_eq] at hmk
  refine Met.ofW (cc := ab_bts k) (maxL := ab_mxl k) (ret := ab_rty k) hmk.1.2 rfl ?_
  intro p e s m args below meth c s₁ B hml hv
  obtain ⟨rfl, hw, hN, hK, hO, hF, hSL⟩ := hv
  have hts := atoms_spec (ws := ab_ws k) B.pre
  have hin := (name_of_methodNamed B.named B.method).1
  have C : ab_Cx D cA bnd aS SL xs k p (ab_rm k (w'.1 - w.1).toNat (w'.2.1 - w.2.1)) s m (av.map (ab_cv (ab_ad bnd aS))).toArray meth c :=
    ⟨B.exec, B.bytes, hml, findClass_of_methodNamed B.named, fun z hz => hts z (List.mem_cons_of_mem _ hz), hN, fun h => by rw [hin]; exact h, hw.2.2.1, Nat.le_refl _, Nat.le_refl _, hK, hO, hF, hSL⟩
  have hl := lv_entry (av.map (ab_cv (ab_ad bnd aS))) (n := ab_mxl k) (by rw [ab_sl]; exact hcat)
  rw [lg_entry_eq]
  generalize (lg_sl (av.map (ab_cv (ab_ad bnd aS))) ++ List.replicate (ab_mxl k - (lg_sl (av.map (ab_cv (ab_ad bnd aS)))).length) Slot.unset).toArray = ls at hl ⊢
  have hl := ab_has_sub hl (l' := ab_al (ab_ad bnd aS) 0 (ab_en k av)) (fun q hq => ab_args _ av 0 (ab_al_pad hq))
  have h := hW p e s m _ below meth c C B.notSynchronized B.returns s.heap [] ls hw va_S.rf hl
  rw [ab_pc0 (by omega), show (w.1 - w.1).toNat = 0 by omega, show w.2.1 - w.2.1 = 0 by omega] at h
  exact h
section AbCall
variable {p : Program} {l : Launch} {e : Env} {R : Room} {s : State} {m : MethodId} {args : Array Value} {below : List Frame} {meth : Method} {c : Code} {Q : State → Prop} {D : va_G} {cA : Nat → ClassId} {bnd : Nat} {aS : Int → Nat} {SL : Nat} {xs : Nat → Int32} {K0 : Int} {S0 : Nat} {k : Nat}

theorem ab_callG {H : Heap} {locs : List Loc} {cells slots mc ms pc : Nat} {ls : Array Slot} {st0 rest : List Value} {Qa : State → Outcome → State → Prop} {free : Addr → Prop} (hr : va_Run p l e R s m args below meth c H locs cells slots mc ms (F0 m pc ls st0) rest Qa free) (hS : va_S (fun q => bnd ≤ q) s.heap H locs) (hf : ∀ q, free q → bnd ≤ q)
    (hF : ∀ st₀ o t, Qa st₀ o t → va_F (fun q => bnd ≤ q) st₀ t)
    (kk : ∀ (v : Option Value) (st₀ t : State) (H1 : Heap) (locs1 : List Loc), st₀.heap = H → Qa st₀ (.returned v) t → t.heap = H1 → va_S (fun q => bnd ≤ q) s.heap H1 locs1 → W p l e R s m args below meth c H1 locs1 (cells + mc) (slots + ms) Q (F0 m (pc + 3) ls (v.toList ++ rest))) : W p l e R s m args below meth c H locs cells slots Q (F0 m pc ls st0) := by
  intro T hT X
  obtain ⟨v, st₀, t, T', L, h0, X', hL, e1, e2, hq, st⟩ := hr T hT X
  obtain ⟨hz, hk⟩ := hF _ _ _ hq
  rw [h0] at hz hk
  obtain ⟨t2, a1, b1⟩ := kk v st₀ t T'.heap (locs ++ L) h0 hq e1.symm
    ⟨Nat.le_trans hS.1 (by rw [e1]; exact hz), fun q h1 h2 => by rw [e1, hk q (Nat.lt_of_lt_of_le h1 hS.1) h2]; exact hS.2.1 q h1 h2, fun q hq => by
      rcases List.mem_append.mp hq with h | h
      · exact hS.2.2 q h
      · exact hf _ (hL q h)⟩ T' rfl X'
  exact ⟨t2, st t2 a1, b1⟩
theorem ab_p1 {i k' nx : Nat} {b : Int} {L : ab_F} {st : List ab_V} {w w1 : ab_W} {v : List ab_V} (C : ab_Cx D cA bnd aS SL xs k p R s m args meth c) (ho : ab_nth (ab_cod k) i = some (1, k', b, nx))
    (hok : ab_okc k k' b.toNat (st.drop b.toNat) st = true) (hrv : ab_rvB k' (st.take b.toNat).reverse w.1 = true) (hnt : ab_nt v = true)
    (hM : Met l (ab_yn k') (ab_ws k') (ab_rm k' (w1.1 - w.1).toNat (w1.2.1 - w.2.1)) (ab_Pc D cA bnd aS SL xs (st.take b.toNat).reverse w) (ab_Qc D cA bnd aS SL xs v w1) (w1.1 - w.1).toNat (w1.2.1 - w.2.1) (fun q => bnd ≤ q))
    (hm1 : w.1 ≤ w1.1) (hm2 : w.2.1 ≤ w1.2.1) (hk0 : K0 ≤ w.1) (hs0 : S0 ≤ w.2.1) (hr1 : (w1.1 - K0).toNat ≤ R.cells) (hr2 : w1.2.1 - S0 ≤ R.slots) (kk : ab_WW p l e R s m args below meth c Q D cA bnd aS SL xs K0 S0 k nx L (v ++ st.drop b.toNat) w1) : ab_WW p l e R s m args below meth c Q D cA bnd aS SL xs K0 S0 k i L st w := by
  intro H locs ls hw hS hl
  simp only [ab_okc, Bool.and_eq_true] at hok
  obtain ⟨⟨⟨⟨hk1, hcm⟩, hdp⟩, hcr⟩, hln⟩ := hok
  have hk1 : k' < 245 := ab_blt hk1
  have hdp : ab_dep k' < ab_dep k := ab_blt hdp
  have hcr : ab_cat (st.drop b.toNat) ≤ 8 := Nat.le_of_ble_eq_true hcr
  have hln : b.toNat ≤ st.length := Nat.le_of_ble_eq_true hln
  obtain ⟨q, hq, hd, hsc, hp⟩ := ab_dec ho (show 1 < 72 by decide)
  have hp := hp.resolve_left (show ¬ ab_jmp 1 = true by decide)
  have hmk := ab_mk_ok hk1
  simp only [ab_mk, Bool.and_eq_true, decide_eq_true_eq] at hmk
  obtain ⟨⟨⟨⟨⟨hmh, hvh⟩, hpar⟩, hmx⟩, hpl⟩, hknd⟩ := hmk
  have hmx : ab_mxl k' ≤ 19 := Nat.le_of_ble_eq_true hmx
  have hts := C.2.2.2.2.1
  have hfr := C.2.2.2.2.2.2.2.2.1
  have hlo := C.2.2.2.2.2.2.2.2.2.1
  have hst : st.map (ab_cv (ab_ad bnd aS)) = (((st.take b.toNat).reverse.map (ab_cv (ab_ad bnd aS))).reverse) ++ (st.drop b.toNat).map (ab_cv (ab_ad bnd aS)) := by
    rw [← List.map_reverse, List.reverse_reverse, ← List.map_append, List.take_append_drop]
  have hlen : (st.take b.toNat).reverse.length = b.toNat := by simp [hln]
  have hmw : ∀ z ∈ ab_mw k', z.2.before args s = true := fun z hz => hts _ (ab_mw_ok hk1 hz).2
  have hini : (Cond.initialized (ab_yn k').cls).before args s = true := hmw ((ab_m k').2.2.2.2.2.2.2.2, .initialized (ab_m k').1) (by unfold ab_mw; exact List.mem_append_left _ (List.mem_cons_of_mem _ List.mem_cons_self))
  have hword := ab_nw_ok ho List.mem_cons_self
  have hR : (ab_rm k' (w1.1 - w.1).toNat (w1.2.1 - w.2.1)).frames + 1 ≤ R.frames ∧ 8 + (ab_mxl k' + 11) + (ab_rm k' (w1.1 - w.1).toNat (w1.2.1 - w.2.1)).locals ≤ R.locals := by
    constructor
    · show ab_dep k' + 1 ≤ R.frames; omega
    · show 8 + (ab_mxl k' + 11) + (38 * ab_dep k' + 2) ≤ R.locals; omega
  have hPU : ∀ U : State, U.heap = H → s.WarmedH U.vm → ab_Pc D cA bnd aS SL xs (st.take b.toNat).reverse w (((st.take b.toNat).reverse.map (ab_cv (ab_ad bnd aS))).toArray) U := by
    intro U hU hWm
    refine ⟨rfl, by rw [hU]; exact hw, ⟨ab_NW_warm hWm C.2.2.2.2.2.1.1, C.2.2.2.2.2.1.2.warm hWm⟩, va_K.moved hWm.alike C.2.2.2.2.2.2.2.2.2.2.1, va_AO.moved hWm.alike C.2.2.2.2.2.2.2.2.2.2.2.1, ?_, C.2.2.2.2.2.2.2.2.2.2.2.2.2⟩
    rw [hU]
    exact ab_SF_moved hWm.alike (ab_SF_kept C.2.2.2.2.2.2.2.1 C.2.2.2.2.2.2.2.2.2.2.2.2.1 hS.2.1)
  have hcells : (w.1 - K0).toNat + (w1.1 - w.1).toNat ≤ R.cells ∧ w.2.1 - S0 + (w1.2.1 - w.2.1) ≤ R.slots := ⟨by omega, by omega⟩
  have hroom : ∀ rest0 : List Value, 2 * (F0 m (ab_pc k i) ls rest0).monitorRoom + (((st.drop b.toNat).map (ab_cv (ab_ad bnd aS))).map fun v => v.category).sum ≤ 8 := fun rest0 => lv_room (by rw [ab_cat_map]; exact hcr)
  have fin : va_Run p l e R s m args below meth c H locs (w.1 - K0).toNat (w.2.1 - S0) (w1.1 - w.1).toNat (w1.2.1 - w.2.1) (F0 m (ab_pc k i) ls (st.map (ab_cv (ab_ad bnd aS)))) ((st.drop b.toNat).map (ab_cv (ab_ad bnd aS))) (ab_Qc D cA bnd aS SL xs v w1 (((st.take b.toNat).reverse.map (ab_cv (ab_ad bnd aS))).toArray)) (fun q => bnd ≤ q) → q.2.1 = 3 → W p l e R s m args below meth c H locs (w.1 - K0).toNat (w.2.1 - S0) Q (F0 m (ab_pc k i) ls (st.map (ab_cv (ab_ad bnd aS)))) := by
    intro hr hq3
    refine ab_callG hr hS (fun _ h => h) (fun _ _ _ h => h.2.2) (fun v1 st₀ t H1 locs1 h0 hqc hH1 hS1 => ?_)
    obtain ⟨hv, hw1, -⟩ := hqc
    cases hv
    rw [hH1] at hw1
    have kk := kk H1 locs1 ls hw1 hS1 hl
    rw [hp, hq3, show (w1.1 - K0).toNat = (w.1 - K0).toNat + (w1.1 - w.1).toNat by omega, show w1.2.1 - S0 = w.2.1 - S0 + (w1.2.1 - w.2.1) by omega, List.map_append] at kk
    have hv2 : (v.map (ab_cv (ab_ad bnd aS))).head?.toList = v.map (ab_cv (ab_ad bnd aS)) := by
      match v, hnt with
      | [], _ => rfl
      | [x], _ => rfl
      | _ :: _ :: _, h => cases h
    rw [hv2]
    exact kk
  have S1 : CallFix p m c (ab_bts k) (ab_mxl k) s args ab_TB (ab_own k) := ⟨C.1, C.2.1, C.2.2.1, C.2.2.2.1, hts⟩
  have hal : ab_alt k i (1, k', b, nx) = match ab_knd k' with
    | 0 => [(.invokestatic (ab_ax k i).2.1, 3, Nat.beq b.toNat (ab_nar k') && Nat.blt k' 245 && Nat.beq (ab_ax k i).2.2.2 0 && Nat.beq (ab_cli k) (ab_cli k'))]
    | 1 => [(.invokespecial (ab_ax k i).2.1, 3, Nat.beq b.toNat (ab_nar k' + 1) && Nat.blt k' 245 && Nat.blt (ab_ax k i).2.2.2 2)]
    | _ => [(.invokevirtual (ab_ax k i).2.1, 3, Nat.beq b.toNat (ab_nar k' + 1) && Nat.blt k' 245 && Nat.blt (ab_ax k i).2.2.2 2)] := rfl
  rw [hal] at hq
  have hlk2 : ((ab_ax k i).2.2.2 = 0 → (Cond.methodLink (ab_own k) (ab_ax k i).2.1 (ab_yn k')).before args s = true) ∧ ((ab_ax k i).2.2.2 = 1 → va_Nw (.methodLinkNest (ab_own k) (ab_ax k i).2.1 (ab_yn k') "EventLedger") s) := by
    constructor
    · intro h0
      have hw2 : (goodWord (Cond.methodLink (ab_own k) (ab_ax k i).2.1 (ab_yn k')) = true ∧ (Cond.methodLink (ab_own k) (ab_ax k i).2.1 (ab_yn k')) ∈ ab_TB) ∨ (ab_isN (Cond.methodLink (ab_own k) (ab_ax k i).2.1 (ab_yn k')) = true ∧ (Cond.methodLink (ab_own k) (ab_ax k i).2.1 (ab_yn k')) ∈ ab_NW) := by
        dsimp only at hword
        rw [h0] at hword
        exact hword
      rcases hw2 with h | h
      · exact hts _ h.2
      · exact absurd h.1 (by simp [ab_isN])
    · intro h1
      have hw2 : (goodWord (Cond.methodLinkNest (ab_own k) (ab_ax k i).2.1 (ab_yn k') "EventLedger") = true ∧ (Cond.methodLinkNest (ab_own k) (ab_ax k i).2.1 (ab_yn k') "EventLedger") ∈ ab_TB) ∨ (ab_isN (Cond.methodLinkNest (ab_own k) (ab_ax k i).2.1 (ab_yn k') "EventLedger") = true ∧ (Cond.methodLinkNest (ab_own k) (ab_ax k i).2.1 (ab_yn k') "EventLedger") ∈ ab_NW) := by
        dsimp only at hword
        rw [h1] at hword
        exact hword
      rcases hw2 with h | h
      · exact absurd h.1 (by simp [goodWord, Cond.onTables, Cond.keeps, Cond.steady])
      · exact C.2.2.2.2.2.1.1 _ h.2
  -- the receiver, where there is one
  have hrcv : ab_rcv k' = (ab_cli k' : Int) → ab_cli k' < 10 → b.toNat = ab_nar k' + 1 → ∃ (x : Int) (As : List ab_V), (st.take b.toNat).reverse = (2, x) :: As ∧ As.length = ab_nar k' ∧ (ab_kd x).1 = (ab_cli k' : Int) ∧ 0 ≤ x ∧ x < w.1 := by
    intro h1 h2 h3
    unfold ab_rvB at hrv
    rw [h1] at hrv
    simp only [Bool.or_eq_true, decide_eq_true_eq] at hrv
    rcases hrv with hrv | hrv
    · omega
    · cases hA : (st.take b.toNat).reverse with
      | nil => rw [hA] at hlen; simp at hlen; omega
      | cons z t =>
        obtain ⟨tg, x⟩ := z
        rw [hA] at hrv hlen
        by_cases ht : tg = 2
        · subst ht
          exact ⟨x, t, rfl, by simp at hlen; omega, of_decide_eq_true hrv⟩
        · exact absurd hrv (by simp [ht])
  match hkd : ab_knd k', hq, hknd with
  | 0, hq, hknd =>
    cases List.mem_singleton.mp hq
    simp only [Bool.and_eq_true] at hsc
    have hb : b.toNat = ab_nar k' := Nat.eq_of_beq_eq_true hsc.1.1.1
    have h0 : (ab_ax k i).2.2.2 = 0 := Nat.eq_of_beq_eq_true hsc.1.2
    have hstt : (Cond.static (ab_yn k')).before args s = true := hmw ((ab_m k').2.2.2.2.2.2.1, .static (ab_yn k')) (by unfold ab_mw; rw [hkd]; exact List.mem_append_right _ List.mem_cons_self)
    refine fin ?_ rfl
    rw [hst]
    exact va_runS (n := ab_nar k') S1 hM ⟨callB_of (ab_nar k') hts (ab_goodIn hk1) rfl rfl rfl hini (hlk2.1 h0) ⟨hmh, hvh, hpar⟩ hR, hstt⟩ ⟨ab_blind, hPU⟩ rfl (by rw [List.length_map, hlen, hb]) hl.1 rfl (hroom _) hd hcells
  | 1, hq, hknd =>
    cases List.mem_singleton.mp hq
    simp only [Bool.and_eq_true, decide_eq_true_eq] at hsc hknd
    have hb : b.toNat = ab_nar k' + 1 := Nat.eq_of_beq_eq_true hsc.1.1
    have hfl : (ab_ax k i).2.2.2 < 2 := ab_blt hsc.2
    have hc10 : ab_cli k' < 10 := ab_blt hknd.1.2
    have hret : ab_rty k' = none := hknd.2
    obtain ⟨x, As, hA, hAl, hx⟩ := hrcv hknd.1.1 hc10 hb
    have hini2 := ab_ini_ok hk1 hkd
    have hinst : (Cond.instanceMethod (ab_yn k')).before args s = true := hmw ((ab_m k').2.2.2.2.2.2.1, .instanceMethod (ab_yn k')) (by unfold ab_mw; rw [hkd]; exact List.mem_append_right _ List.mem_cons_self)
    have hPS : PreS s H (ab_Pc D cA bnd aS SL xs (st.take b.toNat).reverse w) (.ref (ab_ad bnd aS x) :: As.map (ab_cv (ab_ad bnd aS))) := ⟨ab_blind, fun U hU hWm => by have h := hPU U hU hWm; rw [hA] at h ⊢; exact h⟩
    have hwsc : ab_ws k' = Cond.code (ab_yn k') (ab_bts k') (ab_mxl k') none :: ab_TB := by unfold ab_ws; rw [hret]
    refine fin ?_ rfl
    rw [hst, hA]
    by_cases h0 : (ab_ax k i).2.2.2 = 0
    · have := va_runI (n := ab_nar k') (As := As.map (ab_cv (ab_ad bnd aS))) (rest := (st.drop b.toNat).map (ab_cv (ab_ad bnd aS))) (b := ab_ad bnd aS x) (l := l) (e := e) (below := below) (meth := meth) (H := H) (locs := locs) (cells := (w.1 - K0).toNat) (slots := w.2.1 - S0) (g := F0 m (ab_pc k i) ls (((As.map (ab_cv (ab_ad bnd aS))).reverse) ++ .ref (ab_ad bnd aS x) :: (st.drop b.toNat).map (ab_cv (ab_ad bnd aS)))) S1 hM ⟨callB_of (ab_nar k') hts (ab_goodIn hk1) hwsc rfl rfl hini (hlk2.1 h0) ⟨hmh, hvh, hpar⟩ hR, hini2, hinst⟩ hPS rfl (by rw [List.length_map, hAl]) hl.1 rfl (hroom _) hd hcells
      simpa [ab_cv] using this
    · have h1 : (ab_ax k i).2.2.2 = 1 := by omega
      have := va_runIN (n := ab_nar k') (As := As.map (ab_cv (ab_ad bnd aS))) (rest := (st.drop b.toNat).map (ab_cv (ab_ad bnd aS))) (b := ab_ad bnd aS x) (l := l) (e := e) (below := below) (meth := meth) (H := H) (locs := locs) (cells := (w.1 - K0).toNat) (slots := w.2.1 - S0) (g := F0 m (ab_pc k i) ls (((As.map (ab_cv (ab_ad bnd aS))).reverse) ++ .ref (ab_ad bnd aS x) :: (st.drop b.toNat).map (ab_cv (ab_ad bnd aS)))) S1 hM ⟨va_cnB (ab_nar k') hts (ab_goodIn hk1) hwsc rfl rfl (hlk2.2 h1) hini ⟨hmh, hvh, hpar⟩ hR, hini2, hinst⟩ hPS rfl (by rw [List.length_map, hAl]) hl.1 rfl (hroom _) hd hcells
      simpa [ab_cv] using this
  | n + 2, hq, hknd =>
    cases List.mem_singleton.mp hq
    simp only [Bool.and_eq_true, decide_eq_true_eq] at hsc hknd
    have hb : b.toNat = ab_nar k' + 1 := Nat.eq_of_beq_eq_true hsc.1.1
    have hfl : (ab_ax k i).2.2.2 < 2 := ab_blt hsc.2
    have hc10 : ab_cli k' < 10 := ab_blt hknd.2
    obtain ⟨x, As, hA, hAl, hx⟩ := hrcv hknd.1 hc10 hb
    have hinst : (Cond.instanceMethod (ab_yn k')).before args s = true := hmw ((ab_m k').2.2.2.2.2.2.1, .instanceMethod (ab_yn k')) (by unfold ab_mw; rw [hkd]; exact List.mem_append_right _ List.mem_cons_self)
    have hsel : (Cond.selects (ab_yn k').cls (ab_yn k') (ab_yn k')).before args s = true := hmw ((ab_m k').2.2.2.2.2.2.2.1, .selects (ab_yn k').cls (ab_yn k') (ab_yn k')) (by unfold ab_mw; rw [hkd]; exact List.mem_append_right _ (List.mem_cons_of_mem _ List.mem_cons_self))
    have hat := hw.1 x hx.2.1 hx.2.2
    rw [ab_ce_ob (c := ab_cli k') hx.1 hc10] at hat
    have hrc := va_recv (D := D) (cl := ab_clsK) (tys := ab_tys cA) C.2.2.2.2.2.2.2.2.2.2.1 (ab_P1 hat) (ab_clsK_at hc10) (q0 := 0) rfl
    rw [show ((ab_cls (ab_cli k')).1, ab_T (ab_cli k'), ab_nF (ab_cli k')).1 = (ab_yn k').cls from ab_own_ok hk1 rfl hc10] at hrc
    have hPV : PreV s H (ab_yn k').cls (ab_ad bnd aS x) (ab_Pc D cA bnd aS SL xs (st.take b.toNat).reverse w) (As.map (ab_cv (ab_ad bnd aS))) := ⟨ab_blind, hrc, fun U hU hWm => by have h := hPU U hU hWm; rw [hA] at h ⊢; exact h⟩
    refine fin ?_ rfl
    rw [hst, hA]
    by_cases h0 : (ab_ax k i).2.2.2 = 0
    · have := va_runV (n := ab_nar k') (As := As.map (ab_cv (ab_ad bnd aS))) (rest := (st.drop b.toNat).map (ab_cv (ab_ad bnd aS))) (b := ab_ad bnd aS x) (l := l) (e := e) (below := below) (meth := meth) (H := H) (locs := locs) (cells := (w.1 - K0).toNat) (slots := w.2.1 - S0) (g := F0 m (ab_pc k i) ls (((As.map (ab_cv (ab_ad bnd aS))).reverse) ++ .ref (ab_ad bnd aS x) :: (st.drop b.toNat).map (ab_cv (ab_ad bnd aS)))) S1 hM ⟨callB_of (ab_nar k') hts (ab_goodIn hk1) rfl rfl rfl hini (hlk2.1 h0) ⟨hmh, hvh, hpar⟩ hR, hinst, hsel⟩ hPV rfl (by rw [List.length_map, hAl]) hl.1 rfl (hroom _) hd hcells
      simpa [ab_cv] using this
    · have h1 : (ab_ax k i).2.2.2 = 1 := by omega
      have := va_runVN (n := ab_nar k') (As := As.map (ab_cv (ab_ad bnd aS))) (rest := (st.drop b.toNat).map (ab_cv (ab_ad bnd aS))) (b := ab_ad bnd aS x) (l := l) (e := e) (below := below) (meth := meth) (H := H) (locs := locs) (cells := (w.1 - K0).toNat) (slots := w.2.1 - S0) (g := F0 m (ab_pc k i) ls (((As.map (ab_cv (ab_ad bnd aS))).reverse) ++ .ref (ab_ad bnd aS x) :: (st.drop b.toNat).map (ab_cv (ab_ad bnd aS)))) S1 hM ⟨va_cnB (ab_nar k') hts (ab_goodIn hk1) rfl rfl rfl (hlk2.2 h1) hini ⟨hmh, hvh, hpar⟩ hR, hinst, hsel⟩ hPV rfl (by rw [List.length_map, hAl]) hl.1 rfl (hroom _) hd hcells
      simpa [ab_cv] using this

end AbCall
end
section
/-! THE ABSTRACT MACHINE IS SOUND, part 6b: what runs in the JDK's own classes: a word's ordinal, a text's length and characters. -/
def jd_rm (d : Nat) : Room := { frames := d, cells := 0, slots := 0, locals := 38 * d + 2 }
def jd_P (bnd : Nat) (aS : Int → Nat) (SL : Nat) (xs : Nat → Int32) (av : List Value) : Array Value → State → Prop := fun a U => a = av.toArray ∧ bnd ≤ U.heap.size ∧ ab_SF bnd aS SL xs U U.heap
def jd_Q (v : Option Value) : Array Value → State → Outcome → State → Prop := fun _ st oc t => oc = .returned v ∧ t.heap = st.heap
theorem jd_blind {bnd : Nat} {aS : Int → Nat} {SL : Nat} {xs : Nat → Int32} {av : List Value} : FrameBlind (jd_P bnd aS SL xs av) := by
  intro a U g mk h
  exact ⟨h.1, h.2.1, ab_SF_moved (u := U) (U := U.calling g mk a) (Vm.Alike.refl U.vm) h.2.2⟩
theorem jd_good {y : MethodName} {cc : ByteArray} {n : Nat} {ret : Option FieldType} (h : Cond.code y cc n ret ∈ ab_TB) : GoodIn ab_TB (Cond.code y cc n ret :: ab_TB) := by
  intro w hw
  have h1 : w ∈ ab_TB := by
    rcases List.mem_cons.mp hw with rfl | hw
    · exact h
    · exact hw
  exact ⟨h1, good_of_word (List.mem_filter.mp h1).2⟩
theorem jd_met (l : Launch) {bnd : Nat} {aS : Int → Nat} {SL : Nat} {xs : Nat → Int32} {y : MethodName} {cc : ByteArray} {n : Nat} (d : Nat) {ret : Option FieldType} {av : List Value} {v : Option Value} (hy : plainName y.cls = true) (hcat : (lg_sl av).length ≤ n)
    (hW : ∀ (p : Program) (e : Env) (s : State) (m : MethodId) (args : Array Value) (below : List Frame) (meth : Method) (c : Code) (ls : Array Slot), CallFix p m c cc n s args ab_TB y.cls → meth.locks = false → meth.sig.returnType = ret → bnd ≤ s.heap.size → ab_SF bnd aS SL xs s s.heap → lv_has ls n (lv_args 0 av) →
      W p l e (jd_rm d) s m args below meth c s.heap [] 0 0 (MQ below (jd_Q v) args s 0 0 (fun q => bnd ≤ q)) (F0 m 0 ls [])) :
    Met l y (Cond.code y cc n ret :: ab_TB) (jd_rm d) (jd_P bnd aS SL xs av) (jd_Q v) 0 0 (fun q => bnd ≤ q) := by
  refine Met.ofW (cc := cc) (maxL := n) (ret := ret) hy rfl ?_
  intro p e s m args below meth c s₁ B hml hv
  obtain ⟨rfl, hb, hF⟩ := hv
  have hts := atoms_spec (ws := Cond.code y cc n ret :: ab_TB) B.pre
  have hl := lv_entry av hcat
  rw [lg_entry_eq]
  exact hW p e s m _ below meth c _ ⟨B.exec, B.bytes, hml, findClass_of_methodNamed B.named, fun z hz => hts z (List.mem_cons_of_mem _ hz)⟩ B.notSynchronized B.returns hb hF hl
section JD
variable {p : Program} {l : Launch} {e : Env} {R : Room} {s : State} {m : MethodId} {args : Array Value} {below : List Frame} {meth : Method} {c : Code} {H : Heap} {locs : List Loc} {cells slots : Nat} {Q : State → Prop} {bnd : Nat} {aS : Int → Nat} {SL : Nat} {xs : Nat → Int32} {pc : Nat} {ls : Array Slot} {rest : List Value}
theorem jd_call {st0 : List Value} {v : Option Value} {a : Array Value} (hr : va_Run p l e R s m args below meth c H locs cells slots 0 0 (F0 m pc ls st0) rest (jd_Q v a) (fun q => bnd ≤ q)) (hS : va_S (fun q => bnd ≤ q) s.heap H locs)
    (kk : ∀ locs1 : List Loc, va_S (fun q => bnd ≤ q) s.heap H locs1 → W p l e R s m args below meth c H locs1 cells slots Q (F0 m (pc + 3) ls (v.toList ++ rest))) : W p l e R s m args below meth c H locs cells slots Q (F0 m pc ls st0) := by
  refine ab_callG hr hS (fun _ h => h) (fun st₀ o t h => ⟨by rw [h.2]; exact Nat.le_refl _, fun q _ _ => by rw [h.2]⟩) (fun v1 st₀ t H1 locs1 h0 hq hH1 hS1 => ?_)
  obtain ⟨h1, h2⟩ := hq
  cases h1
  have h3 : H1 = H := by rw [← hH1, h2, h0]
  subst h3
  exact kk locs1 hS1
theorem jd_pre (hb : bnd ≤ s.heap.size) (hF : ab_SF bnd aS SL xs s s.heap) (hS : va_S (fun q => bnd ≤ q) s.heap H locs) {av : List Value} : ∀ U : State, U.heap = H → s.WarmedH U.vm → jd_P bnd aS SL xs av av.toArray U := by
  intro U hU hW
  refine ⟨rfl, by rw [hU]; exact Nat.le_trans hb hS.1, ?_⟩
  rw [hU]
  exact ab_SF_moved hW.alike (ab_SF_kept hb hF hS.2.1)
theorem jd_V {y : MethodName} {b cc : ByteArray} {own : String} {n nL d nA index : Nat} {ret : Option FieldType} {As : List Value} {r : Nat} {v : Option Value} (S : CallFix p m c cc nL s args ab_TB own) (hM : Met l y (Cond.code y b n ret :: ab_TB) (jd_rm d) (jd_P bnd aS SL xs (.ref r :: As)) (jd_Q v) 0 0 (fun q => bnd ≤ q))
    (hc : Cond.code y b n ret ∈ ab_TB) (hini : Cond.initialized y.cls ∈ ab_TB) (hlk : Cond.methodLink own index y ∈ ab_TB) (hin : Cond.instanceMethod y ∈ ab_TB) (hse : Cond.selects y.cls y y ∈ ab_TB)
    (hd : y.cls ≠ "java/lang/invoke/MethodHandle" ∧ y.cls ≠ "java/lang/invoke/VarHandle" ∧ (parseMethodDescriptor y.desc).map (fun d => d.parameters.length) = some nA) (hR : d + 1 ≤ R.frames ∧ 8 + (n + 11) + (38 * d + 2) ≤ R.locals)
    (hrc : ∃ cell : Cell, H[r]? = some cell ∧ cell.vm.isStatics = false ∧ s.vm.findClass y.cls = some cell.cls) (hb : bnd ≤ s.heap.size) (hF : ab_SF bnd aS SL xs s s.heap) (hS : va_S (fun q => bnd ≤ q) s.heap H locs) (hn : As.length = nA) (hsz : ls.size = nL) (hcat : (rest.map fun v => v.category).sum ≤ 8)
    {st0 : List Value} (hst : st0 = As.reverse ++ .ref r :: rest) (hdg : decode cc pc = .ok (.invokevirtual index, 3)) (hf : cells ≤ R.cells ∧ slots ≤ R.slots)
    (kk : ∀ locs1 : List Loc, va_S (fun q => bnd ≤ q) s.heap H locs1 → W p l e R s m args below meth c H locs1 cells slots Q (F0 m (pc + 3) ls (v.toList ++ rest))) : W p l e R s m args below meth c H locs cells slots Q (F0 m pc ls st0) := by
  subst hst
  have ht := S.2.2.2.2
  exact jd_call (va_runV (n := nA) (As := As) (rest := rest) (b := r) (g := F0 m pc ls (As.reverse ++ .ref r :: rest)) S hM ⟨callB_of nA ht (jd_good hc) rfl rfl rfl (ht _ hini) (ht _ hlk) hd hR, ht _ hin, ht _ hse⟩ ⟨jd_blind, hrc, jd_pre hb hF hS⟩ rfl hn hsz rfl (lv_room hcat) hdg hf) hS kk
theorem jd_S {y : MethodName} {b cc : ByteArray} {own : String} {n nL d nA index : Nat} {ret : Option FieldType} {As : List Value} {v : Option Value} (S : CallFix p m c cc nL s args ab_TB own) (hM : Met l y (Cond.code y b n ret :: ab_TB) (jd_rm d) (jd_P bnd aS SL xs As) (jd_Q v) 0 0 (fun q => bnd ≤ q))
    (hc : Cond.code y b n ret ∈ ab_TB) (hini : Cond.initialized y.cls ∈ ab_TB) (hlk : Cond.methodLink own index y ∈ ab_TB) (hstt : Cond.static y ∈ ab_TB)
    (hd : y.cls ≠ "java/lang/invoke/MethodHandle" ∧ y.cls ≠ "java/lang/invoke/VarHandle" ∧ (parseMethodDescriptor y.desc).map (fun d => d.parameters.length) = some nA) (hR : d + 1 ≤ R.frames ∧ 8 + (n + 11) + (38 * d + 2) ≤ R.locals)
    (hb : bnd ≤ s.heap.size) (hF : ab_SF bnd aS SL xs s s.heap) (hS : va_S (fun q => bnd ≤ q) s.heap H locs) (hn : As.length = nA) (hsz : ls.size = nL) (hcat : (rest.map fun v => v.category).sum ≤ 8)
    {st0 : List Value} (hst : st0 = As.reverse ++ rest) (hdg : decode cc pc = .ok (.invokestatic index, 3)) (hf : cells ≤ R.cells ∧ slots ≤ R.slots)
    (kk : ∀ locs1 : List Loc, va_S (fun q => bnd ≤ q) s.heap H locs1 → W p l e R s m args below meth c H locs1 cells slots Q (F0 m (pc + 3) ls (v.toList ++ rest))) : W p l e R s m args below meth c H locs cells slots Q (F0 m pc ls st0) := by
  subst hst
  have ht := S.2.2.2.2
  exact jd_call (va_runS (n := nA) (As := As) (rest := rest) (g := F0 m pc ls (As.reverse ++ rest)) S hM ⟨callB_of nA ht (jd_good hc) rfl rfl rfl (ht _ hini) (ht _ hlk) hd hR, ht _ hstt⟩ ⟨jd_blind, jd_pre hb hF hS⟩ rfl hn hsz rfl (lv_room hcat) hdg hf) hS kk
end JD
def jd_str : List Int32 := ab_str.map Int32.ofInt
def jd_ordN : MethodName := ⟨"java/lang/Enum", "ordinal", "()I"⟩
def jd_lenN : MethodName := ⟨"java/lang/String", "length", "()I"⟩
def jd_codN : MethodName := ⟨"java/lang/String", "coder", "()B"⟩
def jd_chrN : MethodName := ⟨"java/lang/String", "charAt", "(I)C"⟩
def jd_latN : MethodName := ⟨"java/lang/String", "isLatin1", "()Z"⟩
def jd_lchN : MethodName := ⟨"java/lang/StringLatin1", "charAt", "([BI)C"⟩
def jd_chkN : MethodName := ⟨"java/lang/String", "checkIndex", "(II)V"⟩
def jd_preN : MethodName := ⟨"jdk/internal/util/Preconditions", "checkIndex", "(IILjava/util/function/BiFunction;)I"⟩
/-- the words of the JDK's calls, by their places -/
theorem jd_w1 : Cond.initialized jd_ordN.cls ∈ ab_TB := ab_in_TB (pl := 4) rfl rfl
theorem jd_w2 : Cond.initialized jd_lenN.cls ∈ ab_TB := ab_in_TB (pl := 16) rfl rfl
theorem jd_w3 : Cond.initialized jd_lchN.cls ∈ ab_TB := ab_in_TB (pl := 17) rfl rfl
theorem jd_w4 : Cond.initialized jd_preN.cls ∈ ab_TB := ab_in_TB (pl := 18) rfl rfl
theorem jd_w5 : Cond.sameMethod "EventLedger$Word" "java/lang/Enum" "ordinal" "()I" ∈ ab_TB := ab_in_TB (pl := 1200) rfl rfl
theorem jd_w6 : Cond.selects "EventLedger$Word" ⟨"EventLedger$Word", "ordinal", "()I"⟩ jd_ordN ∈ ab_TB := ab_in_TB (pl := 1202) rfl rfl
theorem jd_w7 : Cond.instanceMethod jd_ordN ∈ ab_TB := ab_in_TB (pl := 1203) rfl rfl
theorem jd_w8 : Cond.code jd_ordN prog_17_method_2_code 1 (some .int) ∈ ab_TB := ab_in_TB (pl := 1204) rfl rfl
theorem jd_w9 : Cond.fieldLink "java/lang/Enum" 7 "java/lang/Enum" "ordinal" "I" ∈ ab_TB := ab_in_TB (pl := 6208) rfl rfl
theorem jd_w10 : Cond.instanceMethod jd_lenN ∈ ab_TB := ab_in_TB (pl := 5045) rfl rfl
theorem jd_w11 : Cond.selects jd_lenN.cls jd_lenN jd_lenN ∈ ab_TB := ab_in_TB (pl := 5046) rfl rfl
theorem jd_w12 : Cond.code jd_lenN prog_22_method_54_code 1 (some .int) ∈ ab_TB := ab_in_TB (pl := 5047) rfl rfl
theorem jd_w13 : Cond.methodLink "java/lang/String" 335 jd_codN ∈ ab_TB := ab_in_TB (pl := 5048) rfl rfl
theorem jd_w14 : Cond.instanceMethod jd_codN ∈ ab_TB := ab_in_TB (pl := 5049) rfl rfl
theorem jd_w15 : Cond.selects jd_codN.cls jd_codN jd_codN ∈ ab_TB := ab_in_TB (pl := 5050) rfl rfl
theorem jd_w16 : Cond.code jd_codN prog_22_method_152_code 1 (some .byte) ∈ ab_TB := ab_in_TB (pl := 5051) rfl rfl
theorem jd_w17 : Cond.fieldLink "java/lang/String" 38 "java/lang/String" "COMPACT_STRINGS" "Z" ∈ ab_TB := ab_in_TB (pl := 5052) rfl rfl
theorem jd_w18 : Cond.instanceMethod jd_chrN ∈ ab_TB := ab_in_TB (pl := 5055) rfl rfl
theorem jd_w19 : Cond.selects jd_chrN.cls jd_chrN jd_chrN ∈ ab_TB := ab_in_TB (pl := 5056) rfl rfl
theorem jd_w20 : Cond.code jd_chrN prog_22_method_56_code 2 (some .char) ∈ ab_TB := ab_in_TB (pl := 5057) rfl rfl
theorem jd_w21 : Cond.methodLink "java/lang/String" 492 jd_latN ∈ ab_TB := ab_in_TB (pl := 5058) rfl rfl
theorem jd_w22 : Cond.instanceMethod jd_latN ∈ ab_TB := ab_in_TB (pl := 5059) rfl rfl
theorem jd_w23 : Cond.selects jd_latN.cls jd_latN jd_latN ∈ ab_TB := ab_in_TB (pl := 5060) rfl rfl
theorem jd_w24 : Cond.code jd_latN prog_22_method_154_code 1 (some .boolean) ∈ ab_TB := ab_in_TB (pl := 5061) rfl rfl
theorem jd_w25 : Cond.methodLink "java/lang/String" 495 jd_lchN ∈ ab_TB := ab_in_TB (pl := 5062) rfl rfl
theorem jd_w26 : Cond.static jd_lchN ∈ ab_TB := ab_in_TB (pl := 5063) rfl rfl
theorem jd_w27 : Cond.code jd_lchN prog_23_method_2_code 2 (some .char) ∈ ab_TB := ab_in_TB (pl := 5064) rfl rfl
theorem jd_w28 : Cond.methodLink "java/lang/StringLatin1" 9 jd_chkN ∈ ab_TB := ab_in_TB (pl := 5065) rfl rfl
theorem jd_w29 : Cond.static jd_chkN ∈ ab_TB := ab_in_TB (pl := 5066) rfl rfl
theorem jd_w30 : Cond.code jd_chkN prog_22_method_155_code 2 none ∈ ab_TB := ab_in_TB (pl := 5067) rfl rfl
theorem jd_w31 : Cond.fieldLink "java/lang/String" 1053 "jdk/internal/util/Preconditions" "SIOOBE_FORMATTER" "Ljava/util/function/BiFunction;" ∈ ab_TB := ab_in_TB (pl := 5068) rfl rfl
theorem jd_w32 : Cond.methodLink "java/lang/String" 1059 jd_preN ∈ ab_TB := ab_in_TB (pl := 5070) rfl rfl
theorem jd_w33 : Cond.static jd_preN ∈ ab_TB := ab_in_TB (pl := 5071) rfl rfl
theorem jd_w34 : Cond.code jd_preN prog_30_method_11_code 3 (some .int) ∈ ab_TB := ab_in_TB (pl := 5072) rfl rfl
theorem jd_w35 : Cond.fieldLink "java/lang/String" 9 "java/lang/String" "value" "[B" ∈ ab_TB := ab_in_TB (pl := 6211) rfl rfl
theorem jd_w36 : Cond.fieldLink "java/lang/String" 15 "java/lang/String" "coder" "B" ∈ ab_TB := ab_in_TB (pl := 6212) rfl rfl
section JM
variable {bnd : Nat} {aS : Int → Nat} {SL : Nat} {xs : Nat → Int32}
theorem jd_in {j : Int} (h0 : 0 ≤ j) (h1 : j < 86) : ¬ Int32.ofInt j < 0 ∧ Int32.ofInt j < 86 ∧ (Int32.ofInt j).toNatClampNeg = j.toNat ∧ vp_in (Int32.ofInt j) 86 := by
  have h := ab_ix h0 h1 (by omega)
  have h2 : (Int32.ofInt j).toInt = j := by rw [ab_i32, wr_of (by omega) (by omega)]
  refine ⟨?_, ?_, h.1, h.2⟩
  · rw [Int32.lt_iff_toInt_lt, h2]
    show ¬ j < 0
    omega
  · rw [Int32.lt_iff_toInt_lt, h2]
    show j < 86
    exact h1
theorem jd_JF {s : State} {H : Heap} (hF : ab_SF bnd aS SL xs s H) : ab_JF bnd aS s H := hF.2.2.2.2.2.2.2.2
/-- Preconditions.checkIndex within the bounds -/
theorem jd_mPre (l : Launch) {j : Int} (h0 : 0 ≤ j) (h1 : j < 86) (f : Nat) : Met l jd_preN (Cond.code jd_preN prog_30_method_11_code 3 (some .int) :: ab_TB) (jd_rm 0) (jd_P bnd aS SL xs [.int (Int32.ofInt j), .int 86, .ref f]) (jd_Q (some (.int (Int32.ofInt j)))) 0 0 (fun q => bnd ≤ q) := by
  obtain ⟨k1, k2, k3, k4⟩ := jd_in h0 h1
  refine jd_met l 0 (by decide) (by show 3 ≤ 3; omega) ?_
  intro p e s m args below meth c ls S hlocks hret hb hF hl
  have l0 : ls[0]? = some (.val (.int (Int32.ofInt j))) := hl.2.2 (0, _) (by simp [lv_args, Value.category])
  have l1 : ls[1]? = some (.val (.int 86)) := hl.2.2 (1, _) (by simp [lv_args, Value.category])
  refine lv_iload_n (k := 0) (i := 0) S.1 S.2.1 (by decide +kernel) rfl l0 ?_
  refine lv_if_lt (off := 8) (tgt := 9) S.1 S.2.1 (by decide +kernel) rfl (fun h => absurd h k1) (fun _ => ?_)
  refine lv_iload_n (k := 0) (i := 0) S.1 S.2.1 (by decide +kernel) rfl l0 ?_
  refine lv_iload_n (k := 1) (i := 1) S.1 S.2.1 (by decide +kernel) rfl l1 ?_
  refine lv_icmp_lt (off := 10) (tgt := 16) S.1 S.2.1 (by decide +kernel) rfl (fun _ => ?_) (fun h => absurd k2 h)
  refine lv_iload_n (k := 0) (i := 0) S.1 S.2.1 (by decide +kernel) rfl l0 ?_
  exact W.iret S.1 S.2.1 hret (fun t ht _ => ⟨rfl, ht⟩) (fun _ h => by cases h) (by decide +kernel)
/-- String.checkIndex within the bounds -/
theorem jd_mChk (l : Launch) {j : Int} (h0 : 0 ≤ j) (h1 : j < 86) : Met l jd_chkN (Cond.code jd_chkN prog_22_method_155_code 2 none :: ab_TB) (jd_rm 1) (jd_P bnd aS SL xs [.int (Int32.ofInt j), .int 86]) (jd_Q none) 0 0 (fun q => bnd ≤ q) := by
  refine jd_met l 1 (by decide) (by show 2 ≤ 2; omega) ?_
  intro p e s m args below meth c ls S hlocks hret hb hF hl
  have l0 : ls[0]? = some (.val (.int (Int32.ofInt j))) := hl.2.2 (0, _) (by simp [lv_args, Value.category])
  have l1 : ls[1]? = some (.val (.int 86)) := hl.2.2 (1, _) (by simp [lv_args, Value.category])
  have ht := S.2.2.2.2
  have hZ := (jd_JF hF).2.1
  refine lv_iload_n (k := 0) (i := 0) S.1 S.2.1 (by decide +kernel) rfl l0 ?_
  refine lv_iload_n (k := 1) (i := 1) S.1 S.2.1 (by decide +kernel) rfl l1 ?_
  refine va_gets S.1 S.2.1 hZ va_S.rf S.2.2.2.1 (ht _ jd_w31) (fun _ h => h) (by decide +kernel) ?_
  refine jd_S (As := [.int (Int32.ofInt j), .int 86, .ref (aS (-24))]) (rest := []) (d := 0) (nA := 3) S (jd_mPre l h0 h1 (aS (-24))) jd_w34 jd_w4 jd_w32 jd_w33 (by decide +kernel) (by decide) hb hF va_S.rf rfl hl.1 (by decide) rfl (by decide +kernel) (by decide) (fun locs1 hS1 => ?_)
  refine lv_pop S.1 S.2.1 (by decide +kernel) rfl ?_
  exact W.vret S.1 S.2.1 hret (fun t ht _ => ⟨rfl, ht⟩) hS1.2.2 (by decide +kernel)
/-- a text's coder: Latin1 -/
theorem jd_mCod (l : Launch) : Met l jd_codN (Cond.code jd_codN prog_22_method_152_code 1 (some .byte) :: ab_TB) (jd_rm 0) (jd_P bnd aS SL xs [.ref (aS (-22))]) (jd_Q (some (.int 0))) 0 0 (fun q => bnd ≤ q) := by
  refine jd_met l 0 (by decide) (by show 1 ≤ 1; omega) ?_
  intro p e s m args below meth c ls S hlocks hret hb hF hl
  have l0 : ls[0]? = some (.val (.ref (aS (-22)))) := hl.2.2 (0, _) (by simp [lv_args])
  have ht := S.2.2.2.2
  have hJ := jd_JF hF
  have hc := (hJ.2.2.1 0 (by omega)).2.1
  refine va_gets S.1 S.2.1 hJ.1 va_S.rf S.2.2.2.1 (ht _ jd_w17) (fun _ h => h) (by decide +kernel) ?_
  refine lv_if_eq (off := 10) (tgt := 13) S.1 S.2.1 (by decide +kernel) rfl (fun h => absurd h (by decide)) (fun _ => ?_)
  refine lv_aload_n (k := 0) (i := 0) S.1 S.2.1 (by decide +kernel) rfl l0 ?_
  refine vk_getf S.1 S.2.1 hc va_S.rf S.2.2.2.1 (ht _ jd_w36) (fun _ h => h) (by decide +kernel) ?_
  refine lv_goto (off := 4) (tgt := 14) S.1 S.2.1 (by decide +kernel) rfl ?_
  exact W.zret S.1 S.2.1 hret (by decide) (fun t ht _ => ⟨rfl, ht⟩) (fun _ h => by cases h) (by decide +kernel)
/-- the text is Latin1 -/
theorem jd_mLat (l : Launch) : Met l jd_latN (Cond.code jd_latN prog_22_method_154_code 1 (some .boolean) :: ab_TB) (jd_rm 0) (jd_P bnd aS SL xs [.ref (aS (-22))]) (jd_Q (some (.int 1))) 0 0 (fun q => bnd ≤ q) := by
  refine jd_met l 0 (by decide) (by show 1 ≤ 1; omega) ?_
  intro p e s m args below meth c ls S hlocks hret hb hF hl
  have l0 : ls[0]? = some (.val (.ref (aS (-22)))) := hl.2.2 (0, _) (by simp [lv_args])
  have ht := S.2.2.2.2
  have hJ := jd_JF hF
  have hc := (hJ.2.2.1 0 (by omega)).2.1
  refine va_gets S.1 S.2.1 hJ.1 va_S.rf S.2.2.2.1 (ht _ jd_w17) (fun _ h => h) (by decide +kernel) ?_
  refine lv_if_eq (off := 14) (tgt := 17) S.1 S.2.1 (by decide +kernel) rfl (fun h => absurd h (by decide)) (fun _ => ?_)
  refine lv_aload_n (k := 0) (i := 0) S.1 S.2.1 (by decide +kernel) rfl l0 ?_
  refine vk_getf S.1 S.2.1 hc va_S.rf S.2.2.2.1 (ht _ jd_w36) (fun _ h => h) (by decide +kernel) ?_
  refine lv_if_ne (off := 7) (tgt := 17) S.1 S.2.1 (by decide +kernel) rfl (fun h => absurd rfl h) (fun _ => ?_)
  refine lv_iconst (n := 1) (v := 1) S.1 S.2.1 (by decide +kernel) rfl ?_
  refine lv_goto (off := 4) (tgt := 18) S.1 S.2.1 (by decide +kernel) rfl ?_
  exact W.zret S.1 S.2.1 hret (by decide) (fun t ht _ => ⟨rfl, ht⟩) (fun _ h => by cases h) (by decide +kernel)
theorem jd_recv {s : State} {H : Heap} {locs : List Loc} (hF : ab_SF bnd aS SL xs s s.heap) (hS : va_S (fun q => bnd ≤ q) s.heap H locs) : ∃ cell : Cell, H[aS (-22)]? = some cell ∧ cell.vm.isStatics = false ∧ s.vm.findClass "java/lang/String" = some cell.cls := vk_recv (jd_JF hF).2.2 (i := 0) (by omega) hS
/-- the text's length -/
theorem jd_mLen (l : Launch) : Met l jd_lenN (Cond.code jd_lenN prog_22_method_54_code 1 (some .int) :: ab_TB) (jd_rm 1) (jd_P bnd aS SL xs [.ref (aS (-22))]) (jd_Q (some (.int 86))) 0 0 (fun q => bnd ≤ q) := by
  refine jd_met l 1 (by decide) (by show 1 ≤ 1; omega) ?_
  intro p e s m args below meth c ls S hlocks hret hb hF hl
  have l0 : ls[0]? = some (.val (.ref (aS (-22)))) := hl.2.2 (0, _) (by simp [lv_args])
  have ht := S.2.2.2.2
  have hJ := jd_JF hF
  have hc := (hJ.2.2.1 0 (by omega)).2.2
  refine lv_aload_n (k := 0) (i := 0) S.1 S.2.1 (by decide +kernel) rfl l0 ?_
  refine vk_getf S.1 S.2.1 hc.1 va_S.rf S.2.2.2.1 (ht _ jd_w35) (fun _ h => h) (by decide +kernel) ?_
  refine va_tlen (v := 86) S.1 S.2.1 hc.2 va_S.rf rfl (by decide +kernel) ?_
  refine lv_aload_n (k := 0) (i := 0) S.1 S.2.1 (by decide +kernel) rfl l0 ?_
  refine jd_V (As := []) (rest := [.int 86]) (r := aS (-22)) (d := 0) (nA := 0) S (jd_mCod l) jd_w16 jd_w2 jd_w13 jd_w14 jd_w15 (by decide +kernel) (by decide) (jd_recv hF va_S.rf) hb hF va_S.rf rfl hl.1 (by decide) rfl (by decide +kernel) (by decide) (fun locs1 hS1 => ?_)
  refine lv_ishr S.1 S.2.1 (by decide +kernel) ?_
  exact W.iret (v := 86 >>> ((0 : Int32) &&& 31)) S.1 S.2.1 hret (fun t ht _ => ⟨by decide, ht⟩) hS1.2.2 (by decide +kernel)
theorem jd_chC : (List.range 86).all (fun j => decide (((((([ab_str.map Int32.ofInt] : List (List Int32)).getD 0 []).getD j 0) &&& 255).toUInt32 % 65536).toInt32 = Int32.ofInt ((ab_nth ab_str j).getD 0)) && decide (narrow .char (.int (Int32.ofInt ((ab_nth ab_str j).getD 0))) = .int (Int32.ofInt ((ab_nth ab_str j).getD 0)))) = true := by decide +kernel
/-- a Latin1 text's character -/
theorem jd_mLch (l : Launch) {j : Int} (h0 : 0 ≤ j) (h1 : j < 86) : Met l jd_lchN (Cond.code jd_lchN prog_23_method_2_code 2 (some .char) :: ab_TB) (jd_rm 2) (jd_P bnd aS SL xs [.ref (aS (-23)), .int (Int32.ofInt j)]) (jd_Q (some (.int (Int32.ofInt ((ab_nth ab_str j.toNat).getD 0))))) 0 0 (fun q => bnd ≤ q) := by
  obtain ⟨k1, k2, k3, k4⟩ := jd_in h0 h1
  have hch := List.all_eq_true.mp jd_chC j.toNat (List.mem_range.mpr (by omega))
  simp only [Bool.and_eq_true, decide_eq_true_eq] at hch
  refine jd_met l 2 (by decide) (by show 2 ≤ 2; omega) ?_
  intro p e s m args below meth c ls S hlocks hret hb hF hl
  have l0 : ls[0]? = some (.val (.ref (aS (-23)))) := hl.2.2 (0, _) (by simp [lv_args])
  have l1 : ls[1]? = some (.val (.int (Int32.ofInt j))) := hl.2.2 (1, _) (by simp [lv_args, Value.category])
  have ht := S.2.2.2.2
  have hJ := jd_JF hF
  have hc := (hJ.2.2.1 0 (by omega)).2.2.2
  refine lv_iload_n (k := 1) (i := 1) S.1 S.2.1 (by decide +kernel) rfl l1 ?_
  refine lv_aload_n (k := 0) (i := 0) S.1 S.2.1 (by decide +kernel) rfl l0 ?_
  refine va_tlen (v := 86) S.1 S.2.1 hc va_S.rf rfl (by decide +kernel) ?_
  refine jd_S (As := [.int (Int32.ofInt j), .int 86]) (rest := []) (d := 1) (nA := 2) S (jd_mChk l h0 h1) jd_w30 jd_w2 jd_w28 jd_w29 (by decide +kernel) (by decide) hb hF va_S.rf rfl hl.1 (by decide) rfl (by decide +kernel) (by decide) (fun locs1 hS1 => ?_)
  refine lv_aload_n (k := 0) (i := 0) S.1 S.2.1 (by decide +kernel) rfl l0 ?_
  refine lv_iload_n (k := 1) (i := 1) S.1 S.2.1 (by decide +kernel) rfl l1 ?_
  refine va_tb S.1 S.2.1 hc hS1 k4 rfl (by decide +kernel) ?_
  refine lv_sipush (n := 255) (v := 255) S.1 S.2.1 (by decide +kernel) rfl ?_
  refine lv_iand S.1 S.2.1 (by decide +kernel) ?_
  refine lv_i2c (v := Int32.ofInt ((ab_nth ab_str j.toNat).getD 0)) S.1 S.2.1 (by decide +kernel) (by rw [k3]; exact hch.1) ?_
  exact W.zret S.1 S.2.1 hret hch.2 (fun t ht _ => ⟨rfl, ht⟩) hS1.2.2 (by decide +kernel)
/-- a text's character -/
theorem jd_mChr (l : Launch) {j : Int} (h0 : 0 ≤ j) (h1 : j < 86) : Met l jd_chrN (Cond.code jd_chrN prog_22_method_56_code 2 (some .char) :: ab_TB) (jd_rm 3) (jd_P bnd aS SL xs [.ref (aS (-22)), .int (Int32.ofInt j)]) (jd_Q (some (.int (Int32.ofInt ((ab_nth ab_str j.toNat).getD 0))))) 0 0 (fun q => bnd ≤ q) := by
  have hch := List.all_eq_true.mp jd_chC j.toNat (List.mem_range.mpr (by omega))
  simp only [Bool.and_eq_true, decide_eq_true_eq] at hch
  refine jd_met l 3 (by decide) (by show 2 ≤ 2; omega) ?_
  intro p e s m args below meth c ls S hlocks hret hb hF hl
  have l0 : ls[0]? = some (.val (.ref (aS (-22)))) := hl.2.2 (0, _) (by simp [lv_args])
  have l1 : ls[1]? = some (.val (.int (Int32.ofInt j))) := hl.2.2 (1, _) (by simp [lv_args, Value.category])
  have ht := S.2.2.2.2
  have hJ := jd_JF hF
  have hc := (hJ.2.2.1 0 (by omega)).2.2.1
  refine lv_aload_n (k := 0) (i := 0) S.1 S.2.1 (by decide +kernel) rfl l0 ?_
  refine jd_V (As := []) (rest := []) (r := aS (-22)) (d := 0) (nA := 0) S (jd_mLat l) jd_w24 jd_w2 jd_w21 jd_w22 jd_w23 (by decide +kernel) (by decide) (jd_recv hF va_S.rf) hb hF va_S.rf rfl hl.1 (by decide) rfl (by decide +kernel) (by decide) (fun locs1 hS1 => ?_)
  refine lv_if_eq (off := 12) (tgt := 16) S.1 S.2.1 (by decide +kernel) rfl (fun h => absurd h (by decide)) (fun _ => ?_)
  refine lv_aload_n (k := 0) (i := 0) S.1 S.2.1 (by decide +kernel) rfl l0 ?_
  refine vk_getf S.1 S.2.1 hc hS1 S.2.2.2.1 (ht _ jd_w35) (fun _ h => h) (by decide +kernel) ?_
  refine lv_iload_n (k := 1) (i := 1) S.1 S.2.1 (by decide +kernel) rfl l1 ?_
  refine jd_S (As := [.ref (aS (-23)), .int (Int32.ofInt j)]) (rest := []) (d := 2) (nA := 2) S (jd_mLch l h0 h1) jd_w27 jd_w3 jd_w25 jd_w26 (by decide +kernel) (by decide) hb hF hS1 rfl hl.1 (by decide) rfl (by decide +kernel) (by decide) (fun locs2 hS2 => ?_)
  exact W.zret S.1 S.2.1 hret hch.2 (fun t ht _ => ⟨rfl, ht⟩) hS2.2.2 (by decide +kernel)
/-- a word's ordinal -/
theorem jd_mOrd (l : Launch) {j : Nat} (hj : j < 17) : Met l jd_ordN (Cond.code jd_ordN prog_17_method_2_code 1 (some .int) :: ab_TB) (jd_rm 0) (jd_P bnd aS SL xs [.ref (aS (-5 - j))]) (jd_Q (some (.int (Int32.ofInt j)))) 0 0 (fun q => bnd ≤ q) := by
  refine jd_met l 0 (by decide) (by show 1 ≤ 1; omega) ?_
  intro p e s m args below meth c ls S hlocks hret hb hF hl
  have l0 : ls[0]? = some (.val (.ref (aS (-5 - j)))) := hl.2.2 (0, _) (by simp [lv_args])
  have ht := S.2.2.2.2
  have hc := (hF.2.2.2.2.2.1 j hj).2.1
  refine lv_aload_n (k := 0) (i := 0) S.1 S.2.1 (by decide +kernel) rfl l0 ?_
  refine vk_getf S.1 S.2.1 hc va_S.rf S.2.2.2.1 (ht _ jd_w9) (fun _ h => h) (by decide +kernel) ?_
  exact W.iret S.1 S.2.1 hret (fun t ht _ => ⟨rfl, ht⟩) (fun _ h => by cases h) (by decide +kernel)
end JM
section AbOpen2
variable {p : Program} {l : Launch} {e : Env} {R : Room} {s : State} {m : MethodId} {args : Array Value} {below : List Frame} {meth : Method} {c : Code} {Q : State → Prop} {D : va_G} {cA : Nat → ClassId} {bnd : Nat} {aS : Int → Nat} {SL : Nat} {xs : Nat → Int32} {K0 : Int} {S0 : Nat} {k : Nat}
theorem jd_link {i : Nat} {o : ab_O} {y : MethodName} {x : Nat} (ho : ab_nth (ab_cod k) i = some o) (h : ab_nw k i o = [(x, .methodLink (ab_own k) (ab_ax k i).2.1 y)]) : Cond.methodLink (ab_own k) (ab_ax k i).2.1 y ∈ ab_TB := by
  have hq : (x, Cond.methodLink (ab_own k) (ab_ax k i).2.1 y) ∈ ab_nw k i o := by rw [h]; exact List.mem_singleton.mpr rfl
  rcases ab_nw_ok ho hq with h | h
  · exact h.2
  · exact absurd h.1 (by simp [ab_isN])
theorem ab_p66 {i a nx : Nat} {b : Int} {L : ab_F} {st : List ab_V} {w : ab_W} {x : Int} (C : ab_Cx D cA bnd aS SL xs k p R s m args meth c) (ho : ab_nth (ab_cod k) i = some (66, a, b, nx)) (hc : ab_cat st ≤ 8) (hx : x ≤ -5 ∧ -21 ≤ x) (hrm : (w.1 - K0).toNat ≤ R.cells ∧ w.2.1 - S0 ≤ R.slots) (kk : ab_WW p l e R s m args below meth c Q D cA bnd aS SL xs K0 S0 k nx L ((0, -5 - x) :: st) w) : ab_WW p l e R s m args below meth c Q D cA bnd aS SL xs K0 S0 k i L ((2, x) :: st) w := by
  intro H locs ls hw hS hl
  obtain ⟨hd, hsc, hp⟩ := ab_dec1 ho (by decide) rfl rfl
  have hsc : 1 ≤ ab_dep k := Nat.le_of_ble_eq_true hsc
  have hlk := jd_link ho (y := ⟨"EventLedger$Word", "ordinal", "()I"⟩) rfl
  obtain ⟨j, hj, rfl⟩ : ∃ j : Nat, j < 17 ∧ x = -5 - (j : Int) := ⟨(-5 - x).toNat, by omega, by omega⟩
  have hts := C.2.2.2.2.1
  have hfr := C.2.2.2.2.2.2.2.2.1
  have hlo := C.2.2.2.2.2.2.2.2.2.1
  have hb := C.2.2.2.2.2.2.2.1
  have hF := C.2.2.2.2.2.2.2.2.2.2.2.2.1
  have S : CallFix p m c (ab_bts k) (ab_mxl k) s args ab_TB (ab_own k) := ⟨C.1, C.2.1, C.2.2.1, C.2.2.2.1, hts⟩
  have hT : GoodIn ab_TB (va_wsU (ab_own k) (ab_ax k i).2.1 "EventLedger$Word" "java/lang/Enum" ⟨"EventLedger$Word", "ordinal", "()I"⟩ jd_ordN (Cond.code jd_ordN prog_17_method_2_code 1 (some .int) :: ab_TB)) := by
    intro z hz
    have h1 : z ∈ ab_TB := by
      rcases List.mem_append.mp hz with h | h
      · simp only [List.mem_cons, List.not_mem_nil, or_false] at h
        rcases h with rfl | rfl | rfl | rfl | rfl
        · exact hlk
        · exact jd_w5
        · exact jd_w6
        · exact jd_w7
        · exact jd_w1
      · exact (jd_good jd_w8 z h).1
    exact ⟨h1, good_of_word (List.mem_filter.mp h1).2⟩
  have hO := (hF.2.2.2.2.2.1 j hj).1
  have hrc : ∃ cell : Cell, H[aS (-5 - (j : Int))]? = some cell ∧ cell.vm.isStatics = false ∧ s.vm.findClass "EventLedger$Word" = some cell.cls := by
    obtain ⟨cell, h1, h2, h3, -⟩ := hO.kept hS.2.1
    exact ⟨cell, h1, h2, h3⟩
  have had : ab_ad bnd aS (-5 - (j : Int)) = aS (-5 - (j : Int)) := ab_ad_neg (by omega)
  simp only [List.map_cons]
  rw [show ab_cv (ab_ad bnd aS) (2, -5 - (j : Int)) = .ref (aS (-5 - (j : Int))) by show Value.ref _ = _; rw [had]]
  refine jd_call (va_runU (n := 0) (As := []) (rest := st.map (ab_cv (ab_ad bnd aS))) (b := aS (-5 - (j : Int))) (g := F0 m (ab_pc k i) ls (.ref (aS (-5 - (j : Int))) :: st.map (ab_cv (ab_ad bnd aS)))) S (jd_mOrd l hj) (va_cwU 0 hts hT rfl rfl rfl rfl (by decide +kernel) ⟨by show 0 + 1 ≤ R.frames; omega, by show 8 + (1 + 11) + (38 * 0 + 2) ≤ R.locals; omega⟩) ⟨jd_blind, hrc, jd_pre hb hF hS⟩ rfl rfl hl.1 rfl (lv_room (by rw [ab_cat_map]; exact hc)) hd hrm) hS (fun locs1 hS1 => ?_)
  have kk := kk H locs1 ls hw hS1 hl
  rw [hp, show -5 - (-5 - (j : Int)) = (j : Int) by omega] at kk
  exact kk
theorem ab_p69 {i a nx : Nat} {b : Int} {L : ab_F} {st : List ab_V} {w : ab_W}  (C : ab_Cx D cA bnd aS SL xs k p R s m args meth c) (ho : ab_nth (ab_cod k) i = some (69, a, b, nx)) (hc : ab_cat st ≤ 8) (hrm : (w.1 - K0).toNat ≤ R.cells ∧ w.2.1 - S0 ≤ R.slots) (kk : ab_WW p l e R s m args below meth c Q D cA bnd aS SL xs K0 S0 k nx L ((0, 86) :: st) w) : ab_WW p l e R s m args below meth c Q D cA bnd aS SL xs K0 S0 k i L ((2, -22) :: st) w := by
  intro H locs ls hw hS hl
  obtain ⟨hd, hsc, hp⟩ := ab_dec1 ho (by decide) rfl rfl
  have hsc : 2 ≤ ab_dep k := Nat.le_of_ble_eq_true hsc
  have hfr := C.2.2.2.2.2.2.2.2.1
  have hlo := C.2.2.2.2.2.2.2.2.2.1
  have hF := C.2.2.2.2.2.2.2.2.2.2.2.2.1
  have S : CallFix p m c (ab_bts k) (ab_mxl k) s args ab_TB (ab_own k) := ⟨C.1, C.2.1, C.2.2.1, C.2.2.2.1, C.2.2.2.2.1⟩
  have kk := fun locs1 hS1 => kk H locs1 ls hw hS1 hl
  rw [hp] at kk
  exact jd_V (As := []) (rest := st.map (ab_cv (ab_ad bnd aS))) (r := aS (-22)) (d := 1) (nA := 0) S (jd_mLen l) jd_w12 jd_w2 (jd_link ho rfl) jd_w10 jd_w11 (by decide +kernel) ⟨by omega, by omega⟩ (jd_recv hF hS) C.2.2.2.2.2.2.2.1 hF hS rfl hl.1 (by rw [ab_cat_map]; exact hc) rfl hd hrm kk
theorem ab_p70 {i a nx : Nat} {b : Int} {L : ab_F} {st : List ab_V} {w : ab_W} {j : Int} (C : ab_Cx D cA bnd aS SL xs k p R s m args meth c) (ho : ab_nth (ab_cod k) i = some (70, a, b, nx)) (hc : ab_cat st ≤ 8) (hj : 0 ≤ j ∧ j < 86) (hrm : (w.1 - K0).toNat ≤ R.cells ∧ w.2.1 - S0 ≤ R.slots) (kk : ab_WW p l e R s m args below meth c Q D cA bnd aS SL xs K0 S0 k nx L ((0, (ab_nth ab_str j.toNat).getD 0) :: st) w) : ab_WW p l e R s m args below meth c Q D cA bnd aS SL xs K0 S0 k i L ((0, j) :: (2, -22) :: st) w := by
  intro H locs ls hw hS hl
  obtain ⟨hd, hsc, hp⟩ := ab_dec1 ho (by decide) rfl rfl
  have hsc : 4 ≤ ab_dep k := Nat.le_of_ble_eq_true hsc
  have hfr := C.2.2.2.2.2.2.2.2.1
  have hlo := C.2.2.2.2.2.2.2.2.2.1
  have hF := C.2.2.2.2.2.2.2.2.2.2.2.2.1
  have S : CallFix p m c (ab_bts k) (ab_mxl k) s args ab_TB (ab_own k) := ⟨C.1, C.2.1, C.2.2.1, C.2.2.2.1, C.2.2.2.2.1⟩
  have kk := fun locs1 hS1 => kk H locs1 ls hw hS1 hl
  rw [hp] at kk
  exact jd_V (As := [.int (Int32.ofInt j)]) (rest := st.map (ab_cv (ab_ad bnd aS))) (r := aS (-22)) (d := 3) (nA := 1) S (jd_mChr l hj.1 hj.2) jd_w20 jd_w2 (jd_link ho rfl) jd_w18 jd_w19 (by decide +kernel) ⟨by omega, by omega⟩ (jd_recv hF hS) C.2.2.2.2.2.2.2.1 hF hS rfl hl.1 (by rw [ab_cat_map]; exact hc) rfl hd hrm kk
theorem ab_p71 {i a nx : Nat} {b : Int} {L : ab_F} {st : List ab_V} {w : ab_W}  (C : ab_Cx D cA bnd aS SL xs k p R s m args meth c) (ho : ab_nth (ab_cod k) i = some (71, a, b, nx))  (kk : ab_WW p l e R s m args below meth c Q D cA bnd aS SL xs K0 S0 k nx L ((2, -22) :: st) w) : ab_WW p l e R s m args below meth c Q D cA bnd aS SL xs K0 S0 k i L st w := by
  intro H locs ls hw hS hl
  obtain ⟨hd, hsc, hp⟩ := ab_dec1 ho (by decide) rfl rfl
  simp only [Bool.and_eq_true] at hsc
  have h1 : (ab_ax k i).2.1 = 135 := Nat.eq_of_beq_eq_true hsc.1
  have h2 : k = 65 := Nat.eq_of_beq_eq_true hsc.2
  have hown : ab_own k = "EventLedgerModel" := by rw [h2]; decide +kernel
  obtain ⟨tx, hR⟩ := C.2.2.2.2.2.1.2
  have kk := kk H locs ls hw hS hl
  rw [hp] at kk
  rw [h1] at hd
  have hf := C.2.2.2.1
  rw [hown] at hf
  exact va_ldcS C.1 C.2.1 hf hR hd kk
end AbOpen2
end
section
/-! RULES of the abstract machine. -/
theorem ab_rt_none {k i : Nat} {o : ab_O} {st : List ab_V} (h : ab_nth (ab_cod k) i = some o) (h0 : o.1 ≠ 0) (h1 : o.1 ≠ 72) : ab_rt k i st = none := by
  unfold ab_rt
  rw [h]
  dsimp only
  split <;> first | rfl | (exfalso; omega) | (simp_all)
theorem ab_sp_ex {rn : Nat → ab_F → ab_W → Option (List ab_V × ab_W)} {k i : Nat} {o : ab_O} {L : ab_F} {st : List ab_V} {w : ab_W} (h : ab_nth (ab_cod k) i = some o) (h1 : o.1 ≠ 1) : ab_sp rn k i L st w = ab_ex o L st w := by
  unfold ab_sp
  rw [h]
  dsimp only
  split
  · exact absurd (by assumption) h1
  · rfl
theorem ab_sp_call {rn : Nat → ab_F → ab_W → Option (List ab_V × ab_W)} {k i : Nat} {o : ab_O} {L : ab_F} {st : List ab_V} {w : ab_W} (h : ab_nth (ab_cod k) i = some o) (h1 : o.1 = 1) : ab_sp rn k i L st w =
    (if ab_okc k o.2.1 o.2.2.1.toNat (st.drop o.2.2.1.toNat) st && ab_rvB o.2.1 (st.take o.2.2.1.toNat).reverse w.1 then
        match rn o.2.1 (ab_en o.2.1 (st.take o.2.2.1.toNat).reverse) w with
        | none => none
        | some q => if ab_nt q.1 then some (o.2.2.2, L, q.1 ++ st.drop o.2.2.1.toNat, q.2) else none
      else none) := by
  obtain ⟨op, a, b, nx⟩ := o
  obtain rfl : op = 1 := h1
  unfold ab_sp
  rw [h]
  rfl
theorem ab_sp_more {rn rn' : Nat → ab_F → ab_W → Option (List ab_V × ab_W)} (hr : ∀ k L w x, rn k L w = some x → rn' k L w = some x) {k i : Nat} {L : ab_F} {st : List ab_V} {w : ab_W} {q : Nat × ab_F × List ab_V × ab_W} (h : ab_sp rn k i L st w = some q) : ab_sp rn' k i L st w = some q := by
  cases ho : ab_nth (ab_cod k) i with
  | none => unfold ab_sp at h; rw [ho] at h; cases h
  | some o =>
    by_cases h1 : o.1 = 1
    · rw [ab_sp_call ho h1] at h ⊢
      split at h
      · rename_i hc
        rw [if_pos hc]
        split at h
        · cases h
        · rename_i x hx
          rw [hr _ _ _ _ hx]
          exact h
      · cases h
    · rw [ab_sp_ex ho h1] at h ⊢
      exact h
theorem ab_run_succ : ∀ (n k i : Nat) (L : ab_F) (st : List ab_V) (w : ab_W) (x : List ab_V × ab_W), ab_run n k i L st w = some x → ab_run (n + 1) k i L st w = some x := by
  intro n
  induction n with
  | zero => intro k i L st w x h; simp [ab_run] at h
  | succ n ih =>
    intro k i L st w x h
    rw [ab_run] at h ⊢
    split at h
    · exact h
    · split at h
      · cases h
      · rename_i q hq
        have h2 := ab_sp_more (rn' := fun k' L' w' => ab_run (n + 1) k' 0 L' [] w') (fun k L w x hx => ih k 0 L [] w x hx) hq
        rw [h2]
        exact ih _ _ _ _ _ _ h
theorem ab_run_more {n m k i : Nat} {L : ab_F} {st : List ab_V} {w : ab_W} {x : List ab_V × ab_W} (hnm : n ≤ m) (h : ab_run n k i L st w = some x) : ab_run m k i L st w = some x := by
  induction hnm with
  | refl => exact h
  | step _ ih => exact ab_run_succ _ _ _ _ _ _ _ ih
theorem Rn_ex {k i op a nx : Nat} {b : Int} {L : ab_F} {st : List ab_V} {w : ab_W} {Q : List ab_V → ab_W → Prop} {q : Nat × ab_F × List ab_V × ab_W} (ho : ab_nth (ab_cod k) i = some (op, a, b, nx)) (h0 : op ≠ 0) (h1 : op ≠ 1) (h2 : op ≠ 72) (hx : ab_ex (op, a, b, nx) L st w = some q) (h : ab_Rn k q.1 q.2.1 q.2.2.1 q.2.2.2 Q) : ab_Rn k i L st w Q := by
  obtain ⟨n, v, w', hr, hq⟩ := h
  refine ⟨n + 1, v, w', ?_, hq⟩
  rw [ab_run, ab_rt_none ho h0 h2, ab_sp_ex ho h1, hx]
  exact hr
theorem ab_ps_ex {o : ab_O} {L : ab_F} {st : List ab_V} {w : ab_W} {q : Nat × ab_F × List ab_V} (h : ab_ps o L st = some q) : ab_ex o L st w = some (q.1, q.2.1, q.2.2, w) := by
  obtain ⟨op, a, b, nx⟩ := o
  unfold ab_ex
  dsimp only
  split <;> first
    | (rw [h]; done)
    | (simp [ab_ps] at h; done)
theorem ab_ps_op {o : ab_O} {L : ab_F} {st : List ab_V} {q : Nat × ab_F × List ab_V} (h : ab_ps o L st = some q) : o.1 ≠ 0 ∧ o.1 ≠ 1 ∧ o.1 ≠ 72 := by
  refine ⟨fun h0 => ?_, fun h0 => ?_, fun h0 => ?_⟩ <;> (unfold ab_ps at h; rw [h0] at h; simp at h)
/-- fewer locals known -/
def ab_fle : ab_F → ab_F → Prop
  | [], [] => True
  | none :: t, _ :: t' => ab_fle t t'
  | some a :: t, some b :: t' => a = b ∧ ab_fle t t'
  | _, _ => False
theorem ab_le_lk : ∀ {L L' : ab_F} {i : Nat} {v : ab_V}, ab_fle L L' → ab_lk L i = some v → ab_lk L' i = some v := by
  intro L
  induction L with
  | nil => intro L' i v _ h; simp [ab_lk, ab_nth] at h
  | cons a t ih =>
    intro L' i v hle h
    cases L' with
    | nil => cases a <;> simp [ab_fle] at hle
    | cons a' t' =>
      cases a with
      | none =>
        cases i with
        | zero => cases h
        | succ i =>
          have h2 : ab_lk t i = some v := h
          show ab_lk t' i = some v
          exact ih (show ab_fle t t' from hle) h2
      | some u =>
        cases a' with
        | none => simp [ab_fle] at hle
        | some u' =>
          obtain ⟨rfl, hle2⟩ := (show u = u' ∧ ab_fle t t' from hle)
          cases i with
          | zero => exact h
          | succ i =>
            have h2 : ab_lk t i = some v := h
            show ab_lk t' i = some v
            exact ih hle2 h2
theorem ab_le_rfl : ∀ (L : ab_F), ab_fle L L := by
  intro L
  induction L with
  | nil => trivial
  | cons a t ih => cases a with
    | none => exact ih
    | some u => exact ⟨rfl, ih⟩
theorem ab_le_set : ∀ {L L' : ab_F} {i : Nat} {o o' : Option ab_V}, ab_fle L L' → (o = none ∨ o = o') → ab_fle (ab_set L i o) (ab_set L' i o') := by
  intro L
  induction L with
  | nil => intro L' i o o' h _; cases L' with
    | nil => trivial
    | cons => cases h
  | cons a t ih =>
    intro L' i o o' hle ho
    cases L' with
    | nil => cases a <;> simp [ab_fle] at hle
    | cons a' t' =>
      have ht : ab_fle t t' := by
        cases a with
        | none => exact hle
        | some u => cases a' with
          | none => simp [ab_fle] at hle
          | some u' => exact hle.2
      cases i with
      | zero =>
        show ab_fle (o :: t) (o' :: t')
        rcases ho with rfl | rfl
        · exact ht
        · cases o with
          | none => exact ht
          | some u => exact ⟨rfl, ht⟩
      | succ i =>
        show ab_fle (a :: ab_set t i o) (a' :: ab_set t' i o')
        have h2 := ih (i := i) ht ho
        cases a with
        | none => exact h2
        | some u => cases a' with
          | none => simp [ab_fle] at hle
          | some u' => exact ⟨hle.1, h2⟩
theorem ab_le_kl {L L' : ab_F} {i : Nat} (h : ab_fle L L') : ab_fle (ab_kl L i) (ab_kl L' i) := by
  cases i with
  | zero => exact h
  | succ j =>
    unfold ab_kl
    dsimp only
    split
    · rename_i x hx
      rw [ab_le_lk h hx]
      exact ab_le_set h (Or.inl rfl)
    · split
      · rename_i _ hn _ x hx
        -- L has nothing there that is long: what L' forgets
        have key : ∀ {L L' : ab_F} {j : Nat}, ab_fle L L' → (∀ x, ab_lk L j = some (1, x) → False) → ∀ {x : Int}, ab_lk L' j = some (1, x) → ab_fle L (ab_set L' j none) := by
          intro L
          induction L with
          | nil => intro L' j h _ _ _; cases L' with
            | nil => trivial
            | cons => cases h
          | cons a t ih =>
            intro L' j hle hno x hx
            cases L' with
            | nil => cases a <;> simp [ab_fle] at hle
            | cons a' t' =>
              cases j with
              | zero =>
                have ha' : a' = some (1, x) := hx
                subst ha'
                cases a with
                | none => exact hle
                | some u =>
                  obtain ⟨rfl, -⟩ := (show u = (1, x) ∧ ab_fle t t' from hle)
                  exact (hno x rfl).elim
              | succ j =>
                cases a with
                | none => exact ih (show ab_fle t t' from hle) (fun x h => hno x h) hx
                | some u => cases a' with
                  | none => simp [ab_fle] at hle
                  | some u' => exact ⟨hle.1, ih hle.2 (fun x h => hno x h) hx⟩
        exact key h (fun x h => hn x h) hx
      · exact h
theorem ab_le_s1 {L L' : ab_F} {i : Nat} {v : ab_V} (h : ab_fle L L') : ab_fle (ab_s1 L i v) (ab_s1 L' i v) := ab_le_set (ab_le_kl h) (Or.inr rfl)
theorem ab_le_s2 {L L' : ab_F} {i : Nat} {v : ab_V} (h : ab_fle L L') : ab_fle (ab_s2 L i v) (ab_s2 L' i v) := ab_le_set (ab_le_set (ab_le_kl h) (Or.inr rfl)) (Or.inl rfl)
theorem ab_ps_le {o : ab_O} {L L' : ab_F} {st : List ab_V} {q : Nat × ab_F × List ab_V} (hle : ab_fle L L') (h : ab_ps o L st = some q) : ∃ L1, ab_ps o L' st = some (q.1, L1, q.2.2) ∧ ab_fle q.2.1 L1 := by
  obtain ⟨op, a, b, nx⟩ := o
  unfold ab_ps at h
  dsimp only at h
  split at h
  all_goals first
    | (cases h; exact ⟨_, rfl, ab_le_s1 hle⟩)
    | (cases h; exact ⟨_, rfl, ab_le_s2 hle⟩)
    | (cases h; exact ⟨_, rfl, hle⟩)
    | (cases h; done)
    | (split at h
       · rename_i hc
         cases h
         subst hc
         exact ⟨L', rfl, hle⟩
       · cases h; done)
    | (cases hk : ab_lk L a with
       | none => rw [hk] at h; cases h
       | some v =>
         have hk2 := ab_le_lk hle hk
         rw [hk] at h
         obtain ⟨t, x⟩ := v
         unfold ab_ps
         dsimp only
         rw [hk2]
         rcases t with _ | _ | _ | t <;> first
           | (cases h; exact ⟨_, rfl, hle⟩)
           | (cases h; exact ⟨_, rfl, ab_le_s1 hle⟩)
           | (cases h; done))
theorem ab_ex_le {o : ab_O} {L L' : ab_F} {st : List ab_V} {w : ab_W} {q : Nat × ab_F × List ab_V × ab_W} (hle : ab_fle L L') (h : ab_ex o L st w = some q) : ∃ L1, ab_ex o L' st w = some (q.1, L1, q.2.2.1, q.2.2.2) ∧ ab_fle q.2.1 L1 := by
  cases hp : ab_ps o L st with
  | some q2 =>
    have h2 := ab_ps_ex (w := w) hp
    rw [h] at h2
    cases h2
    obtain ⟨L1, h3, h4⟩ := ab_ps_le hle hp
    exact ⟨L1, ab_ps_ex h3, h4⟩
  | none =>
    refine ⟨L', ?_, ?_⟩
    · unfold ab_ex at h ⊢
      split at h
      all_goals first
        | (rw [hp] at h; cases h; done)
        | (split at h
           · rename_i hc
             cases h
             simp only [if_pos hc]
             done
           · cases h; done)
        | (split at h
           · cases h; done
           · rename_i hc
             cases h
             simp only [if_neg hc]
             done)
        | (cases h; rfl)
    · unfold ab_ex at h
      split at h
      all_goals first
        | (rw [hp] at h; cases h; done)
        | (split at h
           · cases h
             exact hle
           · cases h; done)
        | (split at h
           · cases h; done
           · cases h
             exact hle)
        | (cases h; exact hle)
theorem ab_run_le : ∀ (n k i : Nat) {L L' : ab_F} {st : List ab_V} {w : ab_W} {x : List ab_V × ab_W}, ab_fle L L' → ab_run n k i L st w = some x → ab_run n k i L' st w = some x := by
  intro n
  induction n with
  | zero => intro k i L L' st w x _ h; simp [ab_run] at h
  | succ n ih =>
    intro k i L L' st w x hle h
    rw [ab_run] at h ⊢
    split at h
    · exact h
    · cases hs : ab_sp (fun k' L' w' => ab_run n k' 0 L' [] w') k i L st w with
      | none => rw [hs] at h; cases h
      | some q =>
        rw [hs] at h
        have h2 : ∃ L1, ab_sp (fun k' L' w' => ab_run n k' 0 L' [] w') k i L' st w = some (q.1, L1, q.2.2.1, q.2.2.2) ∧ ab_fle q.2.1 L1 := by
          cases ho : ab_nth (ab_cod k) i with
          | none => unfold ab_sp at hs; rw [ho] at hs; cases hs
          | some o =>
            by_cases h1 : o.1 = 1
            · rw [ab_sp_call ho h1] at hs ⊢
              split at hs
              · rename_i hc
                rw [if_pos hc]
                split at hs
                · cases hs
                · rename_i y hy
                  try rw [hy]
                  try dsimp only
                  split at hs
                  · rename_i hnt
                    cases hs
                    exact ⟨L', by rw [if_pos hnt], hle⟩
                  · cases hs
              · cases hs
            · rw [ab_sp_ex ho h1] at hs ⊢
              exact ab_ex_le hle hs
        obtain ⟨L1, h3, h4⟩ := h2
        rw [h3]
        exact ih _ _ h4 h
theorem Rn_weak {k i : Nat} {L L' : ab_F} {st : List ab_V} {w : ab_W} {Q : List ab_V → ab_W → Prop} (hle : ab_fle L' L) (h : ab_Rn k i L' st w Q) : ab_Rn k i L st w Q := by
  obtain ⟨n, v, w', hr, hq⟩ := h
  exact ⟨n, v, w', ab_run_le n k i hle hr, hq⟩
/-- so many steps that touch locals and stack alone -/
def ab_psn : Nat → Nat → Nat → ab_F → List ab_V → Option (Nat × ab_F × List ab_V)
  | 0, _, i, L, st => some (i, L, st)
  | n + 1, k, i, L, st => match ab_nth (ab_cod k) i with
    | none => none
    | some o => match ab_ps o L st with
      | none => none
      | some q => ab_psn n k q.1 q.2.1 q.2.2
theorem Rn_pure {k : Nat} {w : ab_W} {Q : List ab_V → ab_W → Prop} : ∀ (n : Nat) {i i' : Nat} {L L' : ab_F} {st st' : List ab_V}, ab_psn n k i L st = some (i', L', st') → ab_Rn k i' L' st' w Q → ab_Rn k i L st w Q := by
  intro n
  induction n with
  | zero =>
    intro i i' L L' st st' h kk
    simp only [ab_psn, Option.some.injEq, Prod.mk.injEq] at h
    obtain ⟨rfl, rfl, rfl⟩ := h
    exact kk
  | succ n ih =>
    intro i i' L L' st st' h kk
    rw [ab_psn] at h
    cases ho : ab_nth (ab_cod k) i with
    | none => rw [ho] at h; cases h
    | some o =>
      rw [ho] at h
      dsimp only at h
      cases hp : ab_ps o L st with
      | none => rw [hp] at h; cases h
      | some q =>
        rw [hp] at h
        have hop := ab_ps_op hp
        obtain ⟨op, a, b, nx⟩ := o
        exact Rn_ex ho hop.1 hop.2.1 hop.2.2 (ab_ps_ex hp) (ih h kk)
section RnRules
variable {k i a nx : Nat} {b : Int} {L : ab_F} {st : List ab_V} {Q : List ab_V → ab_W → Prop} {K : Int} {S : Nat} {g r : ab_H}

theorem Rn_rem {x y : Int} (ho : ab_nth (ab_cod k) i = some (19, a, b, nx)) (hy : ¬ wr y = 0) (kk : ab_Rn k nx L ((0, ab_rem x y) :: st) (K, S, g, r) Q) : ab_Rn k i L ((0, y) :: (0, x) :: st) (K, S, g, r) Q :=
  Rn_ex ho (by decide) (by decide) (by decide) (by show (if _ then none else _) = _; exact if_neg hy) kk
theorem Rn_getI {x : Int} (ho : ab_nth (ab_cod k) i = some (35, a, b, nx)) (hx : ab_OB K x b) (kk : ab_Rn k nx L ((0, g x a) :: st) (K, S, g, r) Q) : ab_Rn k i L ((2, x) :: st) (K, S, g, r) Q :=
  Rn_ex ho (by decide) (by decide) (by decide) (by show (if _ then _ else none) = _; exact if_pos hx) kk
theorem Rn_getR {x y : Int} (ho : ab_nth (ab_cod k) i = some (37, a, b, nx)) (hx : ab_OB K x b) (hy : r x a = y) (hn : y ≠ -1) (kk : ab_Rn k nx L ((2, y) :: st) (K, S, g, r) Q) : ab_Rn k i L ((2, x) :: st) (K, S, g, r) Q := by
  subst hy
  exact Rn_ex ho (by decide) (by decide) (by decide) (by show (if _ then _ else none) = _; exact if_pos ⟨hx, hn⟩) kk
theorem Rn_putI {x v : Int} (ho : ab_nth (ab_cod k) i = some (38, a, b, nx)) (hx : ab_OB K x b) (kk : ∀ g' : ab_H, g' = ab_up g x a v → ab_Rn k nx L st (K, S, g', r) Q) : ab_Rn k i L ((0, v) :: (2, x) :: st) (K, S, g, r) Q :=
  Rn_ex ho (by decide) (by decide) (by decide) (by show (if _ then _ else none) = _; exact if_pos hx) (kk _ rfl)
theorem Rn_putZ {x v : Int} (ho : ab_nth (ab_cod k) i = some (39, a, b, nx)) (hx : ab_OB K x b) (hv : v = 0 ∨ v = 1) (kk : ∀ g' : ab_H, g' = ab_up g x a v → ab_Rn k nx L st (K, S, g', r) Q) : ab_Rn k i L ((0, v) :: (2, x) :: st) (K, S, g, r) Q :=
  Rn_ex ho (by decide) (by decide) (by decide) (by show (if _ then _ else none) = _; exact if_pos ⟨hx, hv⟩) (kk _ rfl)
theorem Rn_putR {x v : Int} (ho : ab_nth (ab_cod k) i = some (40, a, b, nx)) (hx : ab_OB K x b) (hv : v ≠ -1) (kk : ∀ r' : ab_H, r' = ab_up r x a v → ab_Rn k nx L st (K, S, g, r') Q) : ab_Rn k i L ((2, v) :: (2, x) :: st) (K, S, g, r) Q :=
  Rn_ex ho (by decide) (by decide) (by decide) (by show (if _ then _ else none) = _; exact if_pos ⟨hx, hv⟩) (kk _ rfl)
theorem Rn_putF {x v : Int} (ho : ab_nth (ab_cod k) i = some (41, a, b, nx)) (hx : ab_OB K x b) (hv : v ≠ -1) (kk : ∀ r' : ab_H, r' = ab_up r x a v → ab_Rn k nx L st (K, S, g, r') Q) : ab_Rn k i L ((2, v) :: (2, x) :: st) (K, S, g, r) Q :=
  Rn_ex ho (by decide) (by decide) (by decide) (by show (if _ then _ else none) = _; exact if_pos ⟨hx, hv⟩) (kk _ rfl)
theorem ab_AR_c {K x t n : Int} (h : ab_AR K x t n) : (ab_kd x).1 = t ∧ 0 ≤ x ∧ x < K := ⟨by rw [h.1], h.2.1, h.2.2⟩
theorem ab_AR_n {K x t n j : Int} (h : ab_AR K x t n) (hj : 0 ≤ j ∧ j < n) : 0 ≤ j ∧ j < (ab_kd x).2 := by rw [h.1]; exact hj
theorem Rn_iald {x j n : Int} (ho : ab_nth (ab_cod k) i = some (43, a, b, nx)) (hx : ab_AR K x 100 n) (hj : 0 ≤ j ∧ j < n) (kk : ab_Rn k nx L ((0, g x j) :: st) (K, S, g, r) Q) : ab_Rn k i L ((0, j) :: (2, x) :: st) (K, S, g, r) Q :=
  Rn_ex ho (by decide) (by decide) (by decide) (by show (if _ then _ else none) = _; exact if_pos ⟨ab_AR_c hx, ab_AR_n hx hj⟩) kk
theorem Rn_bald {x j n : Int} (ho : ab_nth (ab_cod k) i = some (44, a, b, nx)) (hx : ab_AR K x 101 n) (hj : 0 ≤ j ∧ j < n) (kk : ab_Rn k nx L ((0, g x j) :: st) (K, S, g, r) Q) : ab_Rn k i L ((0, j) :: (2, x) :: st) (K, S, g, r) Q :=
  Rn_ex ho (by decide) (by decide) (by decide) (by show (if _ then _ else none) = _; exact if_pos ⟨ab_AR_c hx, ab_AR_n hx hj⟩) kk
theorem Rn_zald {x j n : Int} (ho : ab_nth (ab_cod k) i = some (45, a, b, nx)) (hx : ab_AR K x 102 n) (hj : 0 ≤ j ∧ j < n) (kk : ab_Rn k nx L ((0, g x j) :: st) (K, S, g, r) Q) : ab_Rn k i L ((0, j) :: (2, x) :: st) (K, S, g, r) Q :=
  Rn_ex ho (by decide) (by decide) (by decide) (by show (if _ then _ else none) = _; exact if_pos ⟨ab_AR_c hx, ab_AR_n hx hj⟩) kk
theorem Rn_lald {x j n : Int} (ho : ab_nth (ab_cod k) i = some (46, a, b, nx)) (hx : ab_AR K x 103 n) (hj : 0 ≤ j ∧ j < n) (kk : ab_Rn k nx L ((1, g x j) :: st) (K, S, g, r) Q) : ab_Rn k i L ((0, j) :: (2, x) :: st) (K, S, g, r) Q :=
  Rn_ex ho (by decide) (by decide) (by decide) (by show (if _ then _ else none) = _; exact if_pos ⟨ab_AR_c hx, ab_AR_n hx hj⟩) kk
theorem Rn_aald {x j n y : Int} (ho : ab_nth (ab_cod k) i = some (47, a, b, nx)) (hx : ab_AR K x 104 n) (hj : 0 ≤ j ∧ j < n) (hy : r x j = y) (hn : y ≠ -1) (kk : ab_Rn k nx L ((2, y) :: st) (K, S, g, r) Q) : ab_Rn k i L ((0, j) :: (2, x) :: st) (K, S, g, r) Q := by
  subst hy
  exact Rn_ex ho (by decide) (by decide) (by decide) (by show (if _ then _ else none) = _; exact if_pos ⟨⟨ab_AR_c hx, ab_AR_n hx hj⟩, hn⟩) kk
theorem Rn_iast {x j n v : Int} (ho : ab_nth (ab_cod k) i = some (48, a, b, nx)) (hx : ab_AR K x 100 n) (hj : 0 ≤ j ∧ j < n)  (kk : ∀ g' : ab_H, g' = ab_up g x j v → ab_Rn k nx L st (K, S, g', r) Q) : ab_Rn k i L ((0, v) :: (0, j) :: (2, x) :: st) (K, S, g, r) Q :=
  Rn_ex ho (by decide) (by decide) (by decide) (by show (if _ then _ else none) = _; exact if_pos ⟨ab_AR_c hx, ab_AR_n hx hj⟩) (kk _ rfl)
theorem Rn_bast {x j n v : Int} (ho : ab_nth (ab_cod k) i = some (49, a, b, nx)) (hx : ab_AR K x 101 n) (hj : 0 ≤ j ∧ j < n)  (kk : ∀ g' : ab_H, g' = ab_up g x j (ab_i2b v) → ab_Rn k nx L st (K, S, g', r) Q) : ab_Rn k i L ((0, v) :: (0, j) :: (2, x) :: st) (K, S, g, r) Q :=
  Rn_ex ho (by decide) (by decide) (by decide) (by show (if _ then _ else none) = _; exact if_pos ⟨ab_AR_c hx, ab_AR_n hx hj⟩) (kk _ rfl)
theorem Rn_zast {x j n v : Int} (ho : ab_nth (ab_cod k) i = some (50, a, b, nx)) (hx : ab_AR K x 102 n) (hj : 0 ≤ j ∧ j < n) (hv : v = 0 ∨ v = 1) (kk : ∀ g' : ab_H, g' = ab_up g x j v → ab_Rn k nx L st (K, S, g', r) Q) : ab_Rn k i L ((0, v) :: (0, j) :: (2, x) :: st) (K, S, g, r) Q :=
  Rn_ex ho (by decide) (by decide) (by decide) (by show (if _ then _ else none) = _; exact if_pos ⟨⟨ab_AR_c hx, ab_AR_n hx hj⟩, hv⟩) (kk _ rfl)
theorem Rn_last {x j n v : Int} (ho : ab_nth (ab_cod k) i = some (51, a, b, nx)) (hx : ab_AR K x 103 n) (hj : 0 ≤ j ∧ j < n)  (kk : ∀ g' : ab_H, g' = ab_up g x j v → ab_Rn k nx L st (K, S, g', r) Q) : ab_Rn k i L ((1, v) :: (0, j) :: (2, x) :: st) (K, S, g, r) Q :=
  Rn_ex ho (by decide) (by decide) (by decide) (by show (if _ then _ else none) = _; exact if_pos ⟨ab_AR_c hx, ab_AR_n hx hj⟩) (kk _ rfl)
theorem Rn_aast {x j n v : Int} (ho : ab_nth (ab_cod k) i = some (60, a, b, nx)) (hx : ab_AR K x 104 n) (hj : 0 ≤ j ∧ j < n) (hv : ab_OB K v 5) (kk : ∀ r' : ab_H, r' = ab_up r x j v → ab_Rn k nx L st (K, S, g, r') Q) : ab_Rn k i L ((2, v) :: (0, j) :: (2, x) :: st) (K, S, g, r) Q :=
  Rn_ex ho (by decide) (by decide) (by decide) (by show (if _ then _ else none) = _; exact if_pos ⟨⟨ab_AR_c hx, ab_AR_n hx hj⟩, hv⟩) (kk _ rfl)
theorem Rn_alen {x n : Int} (ho : ab_nth (ab_cod k) i = some (61, a, b, nx)) (hx : ab_AR K x (100 + (a : Int)) n) (kk : ab_Rn k nx L ((0, n) :: st) (K, S, g, r) Q) : ab_Rn k i L ((2, x) :: st) (K, S, g, r) Q := by
  have h1 : (ab_kd x).2 = n := by rw [hx.1]
  rw [← h1] at kk
  exact Rn_ex ho (by decide) (by decide) (by decide) (by show (if _ then _ else none) = _; exact if_pos (ab_AR_c hx)) kk
theorem Rn_max {x y : Int} (ho : ab_nth (ab_cod k) i = some (55, a, b, nx)) (hc : ab_cat st ≤ 8) (kk : ab_Rn k nx L ((0, ab_max x y) :: st) (K, S, g, r) Q) : ab_Rn k i L ((0, y) :: (0, x) :: st) (K, S, g, r) Q :=
  Rn_ex ho (by decide) (by decide) (by decide) (by show (if _ then _ else none) = _; exact if_pos hc) kk
theorem Rn_min {x y : Int} (ho : ab_nth (ab_cod k) i = some (56, a, b, nx)) (hc : ab_cat st ≤ 8) (kk : ab_Rn k nx L ((0, ab_min x y) :: st) (K, S, g, r) Q) : ab_Rn k i L ((0, y) :: (0, x) :: st) (K, S, g, r) Q :=
  Rn_ex ho (by decide) (by decide) (by decide) (by show (if _ then _ else none) = _; exact if_pos hc) kk
theorem Rn_copy {x y n sp dp n0 n1 : Int} (ho : ab_nth (ab_cod k) i = some (57, a, b, nx)) (hx : ab_AR K x 100 n0) (hy : ab_AR K y 100 n1) (hc : ab_cat st ≤ 8) (hK : 186 ≤ K) (hxy : x ≠ y) (hn : 0 ≤ n ∧ 0 ≤ sp ∧ 0 ≤ dp ∧ sp + n ≤ n0 ∧ dp + n ≤ n1) (kk : ∀ g' : ab_H, g' = ab_cpy g x sp y dp n → ab_Rn k nx L st (K, S, g', r) Q) : ab_Rn k i L ((0, n) :: (0, dp) :: (2, y) :: (0, sp) :: (2, x) :: st) (K, S, g, r) Q :=
  Rn_ex ho (by decide) (by decide) (by decide) (by show (if _ then _ else none) = _; exact if_pos ⟨⟨ab_AR_c hx, ab_AR_c hy⟩, hc, hxy, hK, hn.1, hn.2.1, hn.2.2.1, by rw [hx.1]; exact hn.2.2.2.1, by rw [hy.1]; exact hn.2.2.2.2⟩) (kk _ rfl)
theorem Rn_obji {x : Int} (ho : ab_nth (ab_cod k) i = some (58, a, b, nx)) (hc : ab_cat st ≤ 8) (kk : ab_Rn k nx L (st) (K, S, g, r) Q) : ab_Rn k i L ((2, x) :: st) (K, S, g, r) Q :=
  Rn_ex ho (by decide) (by decide) (by decide) (by show (if _ then _ else none) = _; exact if_pos hc) kk
theorem Rn_wald {j : Int} (ho : ab_nth (ab_cod k) i = some (63, a, b, nx)) (hj : 0 ≤ j ∧ j < 17) (kk : ab_Rn k nx L ((2, -5 - j) :: st) (K, S, g, r) Q) : ab_Rn k i L ((0, j) :: (2, -3) :: st) (K, S, g, r) Q :=
  Rn_ex ho (by decide) (by decide) (by decide) (by show (if _ then _ else none) = _; exact if_pos ⟨rfl, hj⟩) kk
theorem Rn_swld {j : Int} (ho : ab_nth (ab_cod k) i = some (64, a, b, nx)) (hj : 0 ≤ j ∧ j < 17) (kk : ab_Rn k nx L ((0, (ab_nth ab_swm j.toNat).getD 0) :: st) (K, S, g, r) Q) : ab_Rn k i L ((0, j) :: (2, -4) :: st) (K, S, g, r) Q :=
  Rn_ex ho (by decide) (by decide) (by decide) (by show (if _ then _ else none) = _; exact if_pos ⟨rfl, hj⟩) kk
theorem Rn_wcode {x : Int} (ho : ab_nth (ab_cod k) i = some (65, 1, b, nx)) (hx : x ≤ -5 ∧ -21 ≤ x) (kk : ab_Rn k nx L ((1, ((ab_nth ab_wt (-5 - x).toNat).getD (0, 0, 0)).1) :: st) (K, S, g, r) Q) : ab_Rn k i L ((2, x) :: st) (K, S, g, r) Q :=
  Rn_ex ho (by decide) (by decide) (by decide) (by show (if _ then _ else none) = _; exact if_pos hx) kk
theorem Rn_wkind {x : Int} (ho : ab_nth (ab_cod k) i = some (65, 2, b, nx)) (hx : x ≤ -5 ∧ -21 ≤ x) (kk : ab_Rn k nx L ((0, ((ab_nth ab_wt (-5 - x).toNat).getD (0, 0, 0)).2.1) :: st) (K, S, g, r) Q) : ab_Rn k i L ((2, x) :: st) (K, S, g, r) Q :=
  Rn_ex ho (by decide) (by decide) (by decide) (by show (if _ then _ else none) = _; exact if_pos hx) kk
theorem Rn_wop {x : Int} (ho : ab_nth (ab_cod k) i = some (65, 3, b, nx)) (hx : x ≤ -5 ∧ -21 ≤ x) (kk : ab_Rn k nx L ((0, ((ab_nth ab_wt (-5 - x).toNat).getD (0, 0, 0)).2.2) :: st) (K, S, g, r) Q) : ab_Rn k i L ((2, x) :: st) (K, S, g, r) Q :=
  Rn_ex ho (by decide) (by decide) (by decide) (by show (if _ then _ else none) = _; exact if_pos hx) kk
theorem Rn_word {x : Int} (ho : ab_nth (ab_cod k) i = some (66, a, b, nx)) (hc : ab_cat st ≤ 8) (hx : x ≤ -5 ∧ -21 ≤ x) (kk : ab_Rn k nx L ((0, -5 - x) :: st) (K, S, g, r) Q) : ab_Rn k i L ((2, x) :: st) (K, S, g, r) Q :=
  Rn_ex ho (by decide) (by decide) (by decide) (by show (if _ then _ else none) = _; exact if_pos ⟨hc, hx⟩) kk
theorem Rn_sld {j : Int} (ho : ab_nth (ab_cod k) i = some (67, a, b, nx)) (hj : 0 ≤ j ∧ j < r (-2) (-1)) (kk : ab_Rn k nx L ((0, g (-2) j) :: st) (K, S, g, r) Q) : ab_Rn k i L ((0, j) :: (2, -2) :: st) (K, S, g, r) Q :=
  Rn_ex ho (by decide) (by decide) (by decide) (by show (if _ then _ else none) = _; exact if_pos ⟨rfl, hj⟩) kk
theorem Rn_slen  (ho : ab_nth (ab_cod k) i = some (68, a, b, nx))  (kk : ab_Rn k nx L ((0, r (-2) (-1)) :: st) (K, S, g, r) Q) : ab_Rn k i L ((2, -2) :: st) (K, S, g, r) Q :=
  Rn_ex ho (by decide) (by decide) (by decide) (by show (if (-2 : Int) = -2 then _ else none) = _; exact if_pos rfl) kk
theorem Rn_strlen  (ho : ab_nth (ab_cod k) i = some (69, a, b, nx)) (hc : ab_cat st ≤ 8) (kk : ab_Rn k nx L ((0, 86) :: st) (K, S, g, r) Q) : ab_Rn k i L ((2, -22) :: st) (K, S, g, r) Q :=
  Rn_ex ho (by decide) (by decide) (by decide) (by show (if _ then _ else none) = _; exact if_pos ⟨hc, rfl⟩) kk
theorem Rn_char {j : Int} (ho : ab_nth (ab_cod k) i = some (70, a, b, nx)) (hc : ab_cat st ≤ 8) (hj : 0 ≤ j ∧ j < 86) (kk : ab_Rn k nx L ((0, (ab_nth ab_str j.toNat).getD 0) :: st) (K, S, g, r) Q) : ab_Rn k i L ((0, j) :: (2, -22) :: st) (K, S, g, r) Q :=
  Rn_ex ho (by decide) (by decide) (by decide) (by show (if _ then _ else none) = _; exact if_pos ⟨hc, rfl, hj⟩) kk
theorem Rn_ifeq {x : Int} (ho : ab_nth (ab_cod k) i = some (32, a, 0, nx)) (ht : wr x = wr 0 → ab_Rn k a L st (K, S, g, r) Q) (hf : ¬ wr x = wr 0 → ab_Rn k nx L st (K, S, g, r) Q) : ab_Rn k i L ((0, x) :: st) (K, S, g, r) Q := by
  refine Rn_ex ho (by decide) (by decide) (by decide) rfl ?_
  show ab_Rn k (if ab_cB 0 x 0 then a else nx) L st (K, S, g, r) Q
  by_cases hc : wr x = wr 0
  · rw [show ab_cB 0 x 0 = true by simp [ab_cB, hc]]
    exact ht hc
  · rw [show ab_cB 0 x 0 = false by simp [ab_cB, hc]]
    exact hf (by first | exact hc | omega)
theorem Rn_iceq {x y : Int} (ho : ab_nth (ab_cod k) i = some (33, a, 0, nx)) (ht : wr x = wr y → ab_Rn k a L st (K, S, g, r) Q) (hf : ¬ wr x = wr y → ab_Rn k nx L st (K, S, g, r) Q) : ab_Rn k i L ((0, y) :: (0, x) :: st) (K, S, g, r) Q := by
  refine Rn_ex ho (by decide) (by decide) (by decide) rfl ?_
  show ab_Rn k (if ab_cB 0 x y then a else nx) L st (K, S, g, r) Q
  by_cases hc : wr x = wr y
  · rw [show ab_cB 0 x y = true by simp [ab_cB, hc]]
    exact ht hc
  · rw [show ab_cB 0 x y = false by simp [ab_cB, hc]]
    exact hf (by first | exact hc | omega)
theorem Rn_ifne {x : Int} (ho : ab_nth (ab_cod k) i = some (32, a, 1, nx)) (ht : ¬ wr x = wr 0 → ab_Rn k a L st (K, S, g, r) Q) (hf : wr x = wr 0 → ab_Rn k nx L st (K, S, g, r) Q) : ab_Rn k i L ((0, x) :: st) (K, S, g, r) Q := by
  refine Rn_ex ho (by decide) (by decide) (by decide) rfl ?_
  show ab_Rn k (if ab_cB 1 x 0 then a else nx) L st (K, S, g, r) Q
  by_cases hc : wr x = wr 0
  · rw [show ab_cB 1 x 0 = false by simp [ab_cB, hc]]
    exact hf hc
  · rw [show ab_cB 1 x 0 = true by simp [ab_cB, hc]]
    exact ht hc
theorem Rn_icne {x y : Int} (ho : ab_nth (ab_cod k) i = some (33, a, 1, nx)) (ht : ¬ wr x = wr y → ab_Rn k a L st (K, S, g, r) Q) (hf : wr x = wr y → ab_Rn k nx L st (K, S, g, r) Q) : ab_Rn k i L ((0, y) :: (0, x) :: st) (K, S, g, r) Q := by
  refine Rn_ex ho (by decide) (by decide) (by decide) rfl ?_
  show ab_Rn k (if ab_cB 1 x y then a else nx) L st (K, S, g, r) Q
  by_cases hc : wr x = wr y
  · rw [show ab_cB 1 x y = false by simp [ab_cB, hc]]
    exact hf hc
  · rw [show ab_cB 1 x y = true by simp [ab_cB, hc]]
    exact ht hc
theorem Rn_iflt {x : Int} (ho : ab_nth (ab_cod k) i = some (32, a, 2, nx)) (ht : wr x < wr 0 → ab_Rn k a L st (K, S, g, r) Q) (hf : wr 0 ≤ wr x → ab_Rn k nx L st (K, S, g, r) Q) : ab_Rn k i L ((0, x) :: st) (K, S, g, r) Q := by
  refine Rn_ex ho (by decide) (by decide) (by decide) rfl ?_
  show ab_Rn k (if ab_cB 2 x 0 then a else nx) L st (K, S, g, r) Q
  by_cases hc : wr x < wr 0
  · rw [show ab_cB 2 x 0 = true by simp [ab_cB, hc]]
    exact ht hc
  · rw [show ab_cB 2 x 0 = false by simp [ab_cB, hc]]
    exact hf (by first | exact hc | omega)
theorem Rn_iclt {x y : Int} (ho : ab_nth (ab_cod k) i = some (33, a, 2, nx)) (ht : wr x < wr y → ab_Rn k a L st (K, S, g, r) Q) (hf : wr y ≤ wr x → ab_Rn k nx L st (K, S, g, r) Q) : ab_Rn k i L ((0, y) :: (0, x) :: st) (K, S, g, r) Q := by
  refine Rn_ex ho (by decide) (by decide) (by decide) rfl ?_
  show ab_Rn k (if ab_cB 2 x y then a else nx) L st (K, S, g, r) Q
  by_cases hc : wr x < wr y
  · rw [show ab_cB 2 x y = true by simp [ab_cB, hc]]
    exact ht hc
  · rw [show ab_cB 2 x y = false by simp [ab_cB, hc]]
    exact hf (by first | exact hc | omega)
theorem Rn_ifge {x : Int} (ho : ab_nth (ab_cod k) i = some (32, a, 3, nx)) (ht : wr 0 ≤ wr x → ab_Rn k a L st (K, S, g, r) Q) (hf : wr x < wr 0 → ab_Rn k nx L st (K, S, g, r) Q) : ab_Rn k i L ((0, x) :: st) (K, S, g, r) Q := by
  refine Rn_ex ho (by decide) (by decide) (by decide) rfl ?_
  show ab_Rn k (if ab_cB 3 x 0 then a else nx) L st (K, S, g, r) Q
  by_cases hc : wr 0 ≤ wr x
  · rw [show ab_cB 3 x 0 = true by simp [ab_cB, hc]]
    exact ht hc
  · rw [show ab_cB 3 x 0 = false by simp [ab_cB, hc]]
    exact hf (by first | exact hc | omega)
theorem Rn_icge {x y : Int} (ho : ab_nth (ab_cod k) i = some (33, a, 3, nx)) (ht : wr y ≤ wr x → ab_Rn k a L st (K, S, g, r) Q) (hf : wr x < wr y → ab_Rn k nx L st (K, S, g, r) Q) : ab_Rn k i L ((0, y) :: (0, x) :: st) (K, S, g, r) Q := by
  refine Rn_ex ho (by decide) (by decide) (by decide) rfl ?_
  show ab_Rn k (if ab_cB 3 x y then a else nx) L st (K, S, g, r) Q
  by_cases hc : wr y ≤ wr x
  · rw [show ab_cB 3 x y = true by simp [ab_cB, hc]]
    exact ht hc
  · rw [show ab_cB 3 x y = false by simp [ab_cB, hc]]
    exact hf (by first | exact hc | omega)
theorem Rn_ifgt {x : Int} (ho : ab_nth (ab_cod k) i = some (32, a, 4, nx)) (ht : wr 0 < wr x → ab_Rn k a L st (K, S, g, r) Q) (hf : wr x ≤ wr 0 → ab_Rn k nx L st (K, S, g, r) Q) : ab_Rn k i L ((0, x) :: st) (K, S, g, r) Q := by
  refine Rn_ex ho (by decide) (by decide) (by decide) rfl ?_
  show ab_Rn k (if ab_cB 4 x 0 then a else nx) L st (K, S, g, r) Q
  by_cases hc : wr 0 < wr x
  · rw [show ab_cB 4 x 0 = true by simp [ab_cB, hc]]
    exact ht hc
  · rw [show ab_cB 4 x 0 = false by simp [ab_cB, hc]]
    exact hf (by first | exact hc | omega)
theorem Rn_icgt {x y : Int} (ho : ab_nth (ab_cod k) i = some (33, a, 4, nx)) (ht : wr y < wr x → ab_Rn k a L st (K, S, g, r) Q) (hf : wr x ≤ wr y → ab_Rn k nx L st (K, S, g, r) Q) : ab_Rn k i L ((0, y) :: (0, x) :: st) (K, S, g, r) Q := by
  refine Rn_ex ho (by decide) (by decide) (by decide) rfl ?_
  show ab_Rn k (if ab_cB 4 x y then a else nx) L st (K, S, g, r) Q
  by_cases hc : wr y < wr x
  · rw [show ab_cB 4 x y = true by simp [ab_cB, hc]]
    exact ht hc
  · rw [show ab_cB 4 x y = false by simp [ab_cB, hc]]
    exact hf (by first | exact hc | omega)
theorem Rn_ifle {x : Int} (ho : ab_nth (ab_cod k) i = some (32, a, 5, nx)) (ht : wr x ≤ wr 0 → ab_Rn k a L st (K, S, g, r) Q) (hf : wr 0 < wr x → ab_Rn k nx L st (K, S, g, r) Q) : ab_Rn k i L ((0, x) :: st) (K, S, g, r) Q := by
  refine Rn_ex ho (by decide) (by decide) (by decide) rfl ?_
  show ab_Rn k (if ab_cB 5 x 0 then a else nx) L st (K, S, g, r) Q
  by_cases hc : wr x ≤ wr 0
  · rw [show ab_cB 5 x 0 = true by simp [ab_cB, hc]]
    exact ht hc
  · rw [show ab_cB 5 x 0 = false by simp [ab_cB, hc]]
    exact hf (by first | exact hc | omega)
theorem Rn_icle {x y : Int} (ho : ab_nth (ab_cod k) i = some (33, a, 5, nx)) (ht : wr x ≤ wr y → ab_Rn k a L st (K, S, g, r) Q) (hf : wr y < wr x → ab_Rn k nx L st (K, S, g, r) Q) : ab_Rn k i L ((0, y) :: (0, x) :: st) (K, S, g, r) Q := by
  refine Rn_ex ho (by decide) (by decide) (by decide) rfl ?_
  show ab_Rn k (if ab_cB 5 x y then a else nx) L st (K, S, g, r) Q
  by_cases hc : wr x ≤ wr y
  · rw [show ab_cB 5 x y = true by simp [ab_cB, hc]]
    exact ht hc
  · rw [show ab_cB 5 x y = false by simp [ab_cB, hc]]
    exact hf (by first | exact hc | omega)
theorem Rn_ts {x : Int} (ho : ab_nth (ab_cod k) i = some (34, a, b, nx)) (kk : ab_Rn k (ab_ts a x) L st (K, S, g, r) Q) : ab_Rn k i L ((0, x) :: st) (K, S, g, r) Q :=
  Rn_ex ho (by decide) (by decide) (by decide) rfl kk
theorem ab_ts_in {x lo : Int} {d t j : Nat} {tg : List Nat} (hT : ab_nth ab_tsL a = some (lo, d, tg)) (hx : wr x = lo + j) (hj : ab_nth tg j = some t) : ab_ts a x = t := by
  unfold ab_ts
  rw [hT]
  dsimp only
  rw [if_neg (by omega), show (wr x - lo).toNat = j by omega, hj]
  rfl
theorem ab_ts_out {x lo : Int} {d n : Nat} {tg : List Nat} (hT : ab_nth ab_tsL a = some (lo, d, tg)) (hn : tg.length = n) (hx : wr x < lo ∨ lo + n ≤ wr x) : ab_ts a x = d := by
  unfold ab_ts
  rw [hT]
  dsimp only
  by_cases h : wr x < lo
  · rw [if_pos h]
  · rw [if_neg h]
    have : ab_nth tg (wr x - lo).toNat = none := by
      rw [ab_nth_get, List.getElem?_eq_none_iff]; omega
    rw [this]
    rfl
/-- what a method answers, where it makes nothing: a number -/
def ab_Qi (K : Int) (S : Nat) (P : Int → ab_H → ab_H → Prop) : List ab_V → ab_W → Prop := fun v w' => ∃ x g' r', v = [(0, x)] ∧ w' = (K, S, g', r') ∧ P x g' r'
def ab_Qv (K : Int) (S : Nat) (P : ab_H → ab_H → Prop) : List ab_V → ab_W → Prop := fun v w' => ∃ g' r', v = [] ∧ w' = (K, S, g', r') ∧ P g' r'
def ab_RI (k : Nat) (av : List ab_V) (K : Int) (S : Nat) (g r : ab_H) (P : Int → ab_H → ab_H → Prop) : Prop := ab_Rn k 0 (ab_en k av) [] (K, S, g, r) (ab_Qi K S P)
def ab_RV (k : Nat) (av : List ab_V) (K : Int) (S : Nat) (g r : ab_H) (P : ab_H → ab_H → Prop) : Prop := ab_Rn k 0 (ab_en k av) [] (K, S, g, r) (ab_Qv K S P)
theorem ab_RI.mono {av : List ab_V} {P P' : Int → ab_H → ab_H → Prop} (h : ab_RI k av K S g r P) (hp : ∀ x g' r', P x g' r' → P' x g' r') : ab_RI k av K S g r P' := by
  obtain ⟨n, v, w', hr, x, g', r', h1, h2, h3⟩ := h
  exact ⟨n, v, w', hr, x, g', r', h1, h2, hp _ _ _ h3⟩
theorem ab_RV.mono {av : List ab_V} {P P' : ab_H → ab_H → Prop} (h : ab_RV k av K S g r P) (hp : ∀ g' r', P g' r' → P' g' r') : ab_RV k av K S g r P' := by
  obtain ⟨n, v, w', hr, g', r', h1, h2, h3⟩ := h
  exact ⟨n, v, w', hr, g', r', h1, h2, hp _ _ h3⟩
theorem Rn_ret0 (ho : ab_nth (ab_cod k) i = some (0, 0, b, nx)) {P : ab_H → ab_H → Prop} (h : P g r) : ab_Rn k i L [] (K, S, g, r) (ab_Qv K S P) := by
  refine ⟨1, [], (K, S, g, r), ?_, g, r, rfl, rfl, h⟩
  rw [ab_run, show ab_rt k i [] = some [] by unfold ab_rt; rw [ho]; rfl]
theorem Rn_ret1 {x : Int} (ho : ab_nth (ab_cod k) i = some (0, 1, b, nx)) {P : Int → ab_H → ab_H → Prop} (h : P x g r) : ab_Rn k i L [(0, x)] (K, S, g, r) (ab_Qi K S P) := by
  refine ⟨1, [(0, x)], (K, S, g, r), ?_, x, g, r, rfl, rfl, h⟩
  rw [ab_run, show ab_rt k i [(0, x)] = some [(0, x)] by unfold ab_rt; rw [ho]; rfl]
theorem Rn_ret2 {x : Int} (ho : ab_nth (ab_cod k) i = some (0, 2, b, nx)) (hx : x = 0 ∨ x = 1) {P : Int → ab_H → ab_H → Prop} (h : P x g r) : ab_Rn k i L [(0, x)] (K, S, g, r) (ab_Qi K S P) := by
  refine ⟨1, [(0, x)], (K, S, g, r), ?_, x, g, r, rfl, rfl, h⟩
  rw [ab_run, show ab_rt k i [(0, x)] = some [(0, x)] by unfold ab_rt; rw [ho]; exact if_pos hx]
theorem ab_rvB_of {k' : Nat} {x : Int} {t : List ab_V} {c : Int} (hc : ab_rcv k' = c) (hx : ab_OB K x c) : ab_rvB k' ((2, x) :: t) K = true := by
  unfold ab_rvB
  rw [hc]
  simp only [Bool.or_eq_true, decide_eq_true_eq]
  exact Or.inr hx
theorem Rn_call {k' : Nat} {w : ab_W} (av rest : List ab_V) (ho : ab_nth (ab_cod k) i = some (1, k', b, nx)) (h1 : (st.take b.toNat).reverse = av) (h2 : st.drop b.toNat = rest) (hok : ab_okc k k' b.toNat rest st = true) (hrv : ab_rvB k' av w.1 = true)
    (h : ab_Rn k' 0 (ab_en k' av) [] w (fun v w' => ab_nt v = true ∧ ab_Rn k nx L (v ++ rest) w' Q)) : ab_Rn k i L st w Q := by
  obtain ⟨n1, v, w1, hr1, hnt, n2, v2, w2, hr2, hq⟩ := h
  refine ⟨max n1 n2 + 1, v2, w2, ?_, hq⟩
  have hs : ab_sp (fun k' L' w' => ab_run (max n1 n2) k' 0 L' [] w') k i L st w = some (nx, L, v ++ rest, w1) := by
    rw [ab_sp_call ho rfl]
    dsimp only
    rw [h2, h1, if_pos (by rw [hok, hrv]; rfl), ab_run_more (Nat.le_max_left n1 n2) hr1]
    dsimp only
    rw [if_pos hnt]
  rw [ab_run, ab_rt_none ho (by show (1 : Nat) ≠ 0; decide) (by show (1 : Nat) ≠ 72; decide), hs]
  exact ab_run_more (Nat.le_max_right n1 n2) hr2
theorem Rn_callI {k' : Nat} (av rest : List ab_V) (ho : ab_nth (ab_cod k) i = some (1, k', b, nx)) (h1 : (st.take b.toNat).reverse = av) (h2 : st.drop b.toNat = rest) (hok : ab_okc k k' b.toNat rest st = true) (hrv : ab_rvB k' av K = true)
    (h : ab_RI k' av K S g r (fun x g' r' => ab_Rn k nx L ((0, x) :: rest) (K, S, g', r') Q)) : ab_Rn k i L st (K, S, g, r) Q := by
  refine Rn_call av rest ho h1 h2 hok hrv ?_
  obtain ⟨n, v, w', hr, x, g', r', rfl, rfl, h3⟩ := h
  exact ⟨n, _, _, hr, rfl, h3⟩
theorem Rn_callV {k' : Nat} (av rest : List ab_V) (ho : ab_nth (ab_cod k) i = some (1, k', b, nx)) (h1 : (st.take b.toNat).reverse = av) (h2 : st.drop b.toNat = rest) (hok : ab_okc k k' b.toNat rest st = true) (hrv : ab_rvB k' av K = true)
    (h : ab_RV k' av K S g r (fun g' r' => ab_Rn k nx L rest (K, S, g', r') Q)) : ab_Rn k i L st (K, S, g, r) Q := by
  refine Rn_call av rest ho h1 h2 hok hrv ?_
  obtain ⟨n, v, w', hr, g', r', rfl, rfl, h3⟩ := h
  exact ⟨n, _, _, hr, rfl, h3⟩
end RnRules
end
section
/-! THE ABSTRACT MACHINE IS SOUND, part 7: any run. -/
section AbSound
variable {p : Program} {l : Launch} {e : Env} {R : Room} {s : State} {m : MethodId} {args : Array Value} {below : List Frame} {meth : Method} {c : Code} {Q : State → Prop} {D : va_G} {cA : Nat → ClassId} {bnd : Nat} {aS : Int → Nat} {SL : Nat} {xs : Nat → Int32} {K0 : Int} {S0 : Nat} {k : Nat}
theorem ab_ps_ok {i op a nx : Nat} {b : Int} {L : ab_F} {st : List ab_V} {w : ab_W} {q : Nat × ab_F × List ab_V} (C : ab_Cx D cA bnd aS SL xs k p R s m args meth c) (ho : ab_nth (ab_cod k) i = some (op, a, b, nx)) (h : ab_ps (op, a, b, nx) L st = some q) (kk : ab_WW p l e R s m args below meth c Q D cA bnd aS SL xs K0 S0 k q.1 q.2.1 q.2.2 w) : ab_WW p l e R s m args below meth c Q D cA bnd aS SL xs K0 S0 k i L st w := by
  unfold ab_ps at h
  dsimp only at h
  split at h
  · cases h
    exact ab_p2 C ho kk
  · split at h
    · rename_i x hx
      cases h
      exact ab_p3 C ho hx kk
    · cases h
  · split at h
    · rename_i x hx
      cases h
      exact ab_p4 C ho hx kk
    · cases h
  · split at h
    · rename_i x hx
      cases h
      exact ab_p5 C ho hx kk
    · cases h
  · cases h
    exact ab_p6 C ho kk
  · cases h
    exact ab_p7 C ho kk
  · cases h
    exact ab_p8 C ho kk
  · split at h
    · rename_i x hx
      cases h
      exact ab_p9 C ho hx kk
    · cases h
  · cases h
    exact ab_p10 C ho kk
  · cases h
    exact ab_p11 C ho kk
  · cases h
    exact ab_p12 C ho kk
  · cases h
    exact ab_p13 C ho kk
  · cases h
    exact ab_p14 C ho kk
  · cases h
    exact ab_p15 C ho kk
  · cases h
    exact ab_p16 C ho kk
  · cases h
    exact ab_p17 C ho kk
  · cases h
    exact ab_p18 C ho kk
  · cases h
    exact ab_p20 C ho kk
  · cases h
    exact ab_p21 C ho kk
  · cases h
    exact ab_p22 C ho kk
  · cases h
    exact ab_p23 C ho kk
  · cases h
    exact ab_p24 C ho kk
  · cases h
    exact ab_p25 C ho kk
  · cases h
    exact ab_p26 C ho kk
  · cases h
    exact ab_p27 C ho kk
  · cases h
    exact ab_p28 (Or.inl rfl) C ho kk
  · cases h
    exact ab_p28 (Or.inr rfl) C ho kk
  · cases h
    exact ab_p29 C ho kk
  · cases h
    exact ab_p30 C ho kk
  · cases h
    exact ab_p31 C ho kk
  · cases h
    exact ab_p42 C ho kk
  · split at h
    · rename_i hc
      cases h
      subst hc
      exact ab_p62 C ho kk
    · cases h
  · cases h
    exact ab_p71 C ho kk
  · cases h
theorem ab_ex_ok {i op a nx : Nat} {b : Int} {L : ab_F} {st : List ab_V} {w : ab_W} {q : Nat × ab_F × List ab_V × ab_W} (C : ab_Cx D cA bnd aS SL xs k p R s m args meth c) (ho : ab_nth (ab_cod k) i = some (op, a, b, nx)) (h : ab_ex (op, a, b, nx) L st w = some q) (hk0 : K0 ≤ w.1) (hs0 : S0 ≤ w.2.1) (hr1 : (q.2.2.2.1 - K0).toNat ≤ R.cells) (hr2 : q.2.2.2.2.1 - S0 ≤ R.slots) (kk : ab_WW p l e R s m args below meth c Q D cA bnd aS SL xs K0 S0 k q.1 q.2.1 q.2.2.1 q.2.2.2) : ab_WW p l e R s m args below meth c Q D cA bnd aS SL xs K0 S0 k i L st w := by
  unfold ab_ex at h
  dsimp only at h
  split at h
  · split at h
    · cases h
    · rename_i hc
      cases h
      exact ab_p19 C ho hc kk
  · cases h
    exact ab_p32 C ho kk
  · cases h
    exact ab_p33 C ho kk
  · cases h
    exact ab_p34 C ho kk
  · split at h
    · rename_i hc
      cases h
      exact ab_p35 C ho hc kk
    · cases h
  · split at h
    · rename_i hc
      cases h
      exact ab_p37 C ho hc.1 hc.2 kk
    · cases h
  · split at h
    · rename_i hc
      cases h
      exact ab_p38 C ho hc kk
    · cases h
  · split at h
    · rename_i hc
      cases h
      exact ab_p39 C ho hc.1 hc.2 kk
    · cases h
  · split at h
    · rename_i hc
      cases h
      exact ab_p40 C ho hc.1 hc.2 kk
    · cases h
  · split at h
    · rename_i hc
      cases h
      exact ab_p41 C ho hc.1 hc.2 kk
    · cases h
  · split at h
    · rename_i hc
      cases h
      exact ab_p43 C ho hc.1 hc.2 kk
    · cases h
  · split at h
    · rename_i hc
      cases h
      exact ab_p44 C ho hc.1 hc.2 kk
    · cases h
  · split at h
    · rename_i hc
      cases h
      exact ab_p45 C ho hc.1 hc.2 kk
    · cases h
  · split at h
    · rename_i hc
      cases h
      exact ab_p46 C ho hc.1 hc.2 kk
    · cases h
  · split at h
    · rename_i hc
      cases h
      exact ab_p47 C ho hc.1.1 hc.1.2 hc.2 kk
    · cases h
  · split at h
    · rename_i hc
      cases h
      exact ab_p48 C ho hc.1 hc.2 kk
    · cases h
  · split at h
    · rename_i hc
      cases h
      exact ab_p49 C ho hc.1 hc.2 kk
    · cases h
  · split at h
    · rename_i hc
      cases h
      exact ab_p50 C ho hc.1.1 hc.1.2 hc.2 kk
    · cases h
  · split at h
    · rename_i hc
      cases h
      exact ab_p51 C ho hc.1 hc.2 kk
    · cases h
  · split at h
    · rename_i hc
      cases h
      exact ab_p52 C ho hc.1 hc.2 hr1 hr2 hk0 hs0 kk
    · cases h
  · split at h
    · rename_i hc
      cases h
      exact ab_p53 C ho hc.1 hc.2.1 hc.2.2.1 hc.2.2.2 hr1 hr2 hk0 hs0 kk
    · cases h
  · split at h
    · rename_i hc
      cases h
      exact ab_p54 C ho hc.1 hc.2.1 hc.2.2.1 hc.2.2.2 hr1 hr2 hk0 hs0 kk
    · cases h
  · split at h
    · rename_i hc
      cases h
      exact ab_p55 C ho hc ⟨hr1, hr2⟩ kk
    · cases h
  · split at h
    · rename_i hc
      cases h
      exact ab_p56 C ho hc ⟨hr1, hr2⟩ kk
    · cases h
  · split at h
    · rename_i hc
      cases h
      exact ab_p57 C ho hc.1.1 hc.1.2 hc.2.1 hc.2.2.1 hc.2.2.2.1 hc.2.2.2.2.1 hc.2.2.2.2.2.1 hc.2.2.2.2.2.2.1 hc.2.2.2.2.2.2.2.1 hc.2.2.2.2.2.2.2.2 kk
    · cases h
  · split at h
    · rename_i hc
      cases h
      exact ab_p58 C ho hc kk
    · cases h
  · split at h
    · rename_i hc
      cases h
      exact ab_p60 C ho hc.1.1 hc.1.2 hc.2 kk
    · cases h
  · split at h
    · rename_i hc
      cases h
      exact ab_p61 C ho hc kk
    · cases h
  · split at h
    · rename_i hc
      cases h
      obtain ⟨rfl, hj⟩ := hc; exact ab_p63 C ho hj kk
    · cases h
  · split at h
    · rename_i hc
      cases h
      obtain ⟨rfl, hj⟩ := hc; exact ab_p64 C ho hj kk
    · cases h
  · split at h
    · rename_i hc
      cases h
      exact ab_p65 C ho hc kk
    · cases h
  · split at h
    · rename_i hc
      cases h
      exact ab_p66 C ho hc.1 hc.2 ⟨hr1, hr2⟩ kk
    · cases h
  · split at h
    · rename_i hc
      cases h
      obtain ⟨rfl, hj⟩ := hc; exact ab_p67 C ho hj kk
    · cases h
  · split at h
    · rename_i hc
      cases h
      obtain rfl := hc; exact ab_p68 C ho kk
    · cases h
  · split at h
    · rename_i hc
      cases h
      obtain ⟨hcat, rfl⟩ := hc; exact ab_p69 C ho hcat ⟨hr1, hr2⟩ kk
    · cases h
  · split at h
    · rename_i hc
      cases h
      obtain ⟨hcat, rfl, hj⟩ := hc; exact ab_p70 C ho hcat hj ⟨hr1, hr2⟩ kk
    · cases h
  · split at h
    · rename_i q2 hq2
      cases h
      exact ab_ps_ok C ho hq2 kk
    · cases h
theorem ab_ex_mono {o : ab_O} {L : ab_F} {st : List ab_V} {w : ab_W} {q : Nat × ab_F × List ab_V × ab_W} (h : ab_ex o L st w = some q) : w.1 ≤ q.2.2.2.1 ∧ w.2.1 ≤ q.2.2.2.2.1 := by
  unfold ab_ex at h
  split at h
  all_goals first
    | (cases h; exact ⟨Int.le_refl _, Nat.le_refl _⟩)
    | (split at h
       · cases h
         first
           | exact ⟨Int.le_refl _, Nat.le_refl _⟩
           | exact ⟨by dsimp only; omega, Nat.le_add_right _ _⟩
       · cases h)
    | (split at h
       · cases h
       · cases h
         exact ⟨Int.le_refl _, Nat.le_refl _⟩)
theorem ab_run_mono : ∀ (n k i : Nat) {L : ab_F} {st : List ab_V} {w : ab_W} {x : List ab_V × ab_W}, ab_run n k i L st w = some x → w.1 ≤ x.2.1 ∧ w.2.1 ≤ x.2.2.1 := by
  intro n
  induction n with
  | zero => intro k i L st w x h; simp [ab_run] at h
  | succ n ih =>
    intro k i L st w x h
    rw [ab_run] at h
    split at h
    · cases h; exact ⟨Int.le_refl _, Nat.le_refl _⟩
    · cases hs : ab_sp (fun k' L' w' => ab_run n k' 0 L' [] w') k i L st w with
      | none => rw [hs] at h; cases h
      | some q =>
        rw [hs] at h
        have h2 := ih _ _ h
        have h3 : w.1 ≤ q.2.2.2.1 ∧ w.2.1 ≤ q.2.2.2.2.1 := by
          unfold ab_sp at hs
          cases ho : ab_nth (ab_cod k) i with
          | none => rw [ho] at hs; cases hs
          | some o =>
            rw [ho] at hs
            dsimp only at hs
            split at hs
            · split at hs
              · split at hs
                · cases hs
                · rename_i y hy
                  split at hs
                  · have h9 := ih _ _ hy
                    cases hs
                    exact h9
                  · cases hs
              · cases hs
            · exact ab_ex_mono hs
        exact ⟨Int.le_trans h3.1 h2.1, Nat.le_trans h3.2 h2.2⟩
theorem ab_cat_app : ∀ (x y : List ab_V), ab_cat (x ++ y) = ab_cat x + ab_cat y := by
  intro x
  induction x with
  | nil => intro y; simp [ab_cat]
  | cons v t ih => intro y; simp only [List.cons_append, ab_cat, ih]; omega
theorem ab_cat_rev : ∀ (x : List ab_V), ab_cat x.reverse = ab_cat x := by
  intro x
  induction x with
  | nil => rfl
  | cons v t ih => rw [List.reverse_cons, ab_cat_app, ih]; simp only [ab_cat]; omega
theorem ab_rt_W {i : Nat} {L : ab_F} {st : List ab_V} {w : ab_W} {v : List ab_V} (C : ab_Cx D cA bnd aS SL xs k p R s m args meth c) (hlocks : meth.locks = false) (hret : meth.sig.returnType = ab_rty k) (h : ab_rt k i st = some v) (hnt : ab_nt v = true) :
    ab_WW p l e R s m args below meth c (MQ below (ab_Qc D cA bnd aS SL xs v w) args s (w.1 - K0).toNat (w.2.1 - S0) (fun q => bnd ≤ q)) D cA bnd aS SL xs K0 S0 k i L st w := by
  intro H locs ls hw hS hl
  cases ho : ab_nth (ab_cod k) i with
  | none => unfold ab_rt at h; rw [ho] at h; cases h
  | some o =>
    obtain ⟨op, a, b, nx⟩ := o
    unfold ab_rt at h
    rw [ho] at h
    dsimp only at h
    split at h
    · cases h
      obtain ⟨q, hq, hd, hsc, -⟩ := ab_dec ho (show (0 : Nat) < 72 by decide)
      cases List.mem_singleton.mp (show q ∈ [(Instr.return_, 1, decide (ab_rty k = none))] from hq)
      exact W.vret C.1 C.2.1 (hret.trans (of_decide_eq_true hsc)) (fun t ht hW => ⟨rfl, by rw [ht]; exact hw, hS.F ht⟩) hS.2.2 hd (hlocks := hlocks)
    · cases h
      obtain ⟨q, hq, hd, hsc, -⟩ := ab_dec ho (show (0 : Nat) < 72 by decide)
      cases List.mem_singleton.mp (show q ∈ [(Instr.ireturn, 1, decide (ab_rty k = some .int))] from hq)
      exact W.iret C.1 C.2.1 (hret.trans (of_decide_eq_true hsc)) (fun t ht hW => ⟨rfl, by rw [ht]; exact hw, hS.F ht⟩) hS.2.2 hd (hlocks := hlocks)
    · split at h
      · rename_i hx
        cases h
        obtain ⟨q, hq, hd, hsc, -⟩ := ab_dec ho (show (0 : Nat) < 72 by decide)
        cases List.mem_singleton.mp (show q ∈ [(Instr.ireturn, 1, decide (ab_rty k = some .boolean))] from hq)
        exact W.zret C.1 C.2.1 (hret.trans (of_decide_eq_true hsc)) (ab_narz hx) (fun t ht hW => ⟨rfl, by rw [ht]; exact hw, hS.F ht⟩) hS.2.2 hd (hlocks := hlocks)
      · cases h
    · cases h
      simp [ab_nt, Nat.blt] at hnt
    · cases h
end AbSound
/-- what the abstract machine says, the machine does -/
theorem ab_sound (l : Launch) {D : va_G} {cA : Nat → ClassId} {bnd : Nat} {aS : Int → Nat} {SL : Nat} {xs : Nat → Int32} : ∀ (n k i : Nat) (L : ab_F) (st : List ab_V) (w : ab_W) (v : List ab_V) (w' : ab_W), ab_run n k i L st w = some (v, w') →
    ∀ {p : Program} {e : Env} {R : Room} {s : State} {m : MethodId} {args : Array Value} {below : List Frame} {meth : Method} {c : Code} {Q : State → Prop} {K0 : Int} {S0 : Nat}, ab_Cx D cA bnd aS SL xs k p R s m args meth c → K0 ≤ w.1 → S0 ≤ w.2.1 → (w'.1 - K0).toNat ≤ R.cells → w'.2.1 - S0 ≤ R.slots →
    (∀ (i' : Nat) (L' : ab_F) (st' : List ab_V), ab_rt k i' st' = some v → ab_WW p l e R s m args below meth c Q D cA bnd aS SL xs K0 S0 k i' L' st' w') → ab_WW p l e R s m args below meth c Q D cA bnd aS SL xs K0 S0 k i L st w := by
  intro n
  induction n with
  | zero => intro k i L st w v w' h; simp [ab_run] at h
  | succ n ih =>
    intro k i L st w v w' h p e R s m args below meth c Q K0 S0 C hk0 hs0 hr1 hr2 hE
    rw [ab_run] at h
    split at h
    · rename_i v0 hv0
      cases h
      exact hE _ _ _ hv0
    · cases hs : ab_sp (fun k' L' w' => ab_run n k' 0 L' [] w') k i L st w with
      | none => rw [hs] at h; cases h
      | some q =>
        rw [hs] at h
        obtain ⟨hm1, hm2⟩ := ab_run_mono _ _ _ h
        dsimp only at hm1 hm2
        unfold ab_sp at hs
        cases ho : ab_nth (ab_cod k) i with
        | none => rw [ho] at hs; cases hs
        | some o =>
          obtain ⟨op, a, b, nx⟩ := o
          rw [ho] at hs
          dsimp only at hs
          split at hs
          · split at hs
            · rename_i hc
              simp only [Bool.and_eq_true] at hc
              split at hs
              · cases hs
              · rename_i y hy
                split at hs
                · rename_i hnt
                  cases hs
                  obtain ⟨g1, g2⟩ := ab_run_mono _ _ _ hy
                  have hok := hc.1
                  simp only [ab_okc, Bool.and_eq_true] at hok
                  have hk1 : a < 245 := ab_blt hok.1.1.1.1
                  have hcm : ab_cat (st.take b.toNat).reverse ≤ ab_mxl a := by rw [ab_cat_rev]; exact Nat.le_of_ble_eq_true hok.1.1.1.2
                  dsimp only at hm1 hm2 h
                  refine ab_p1 C ho hc.1 hc.2 hnt (ab_met l hk1 hcm (fun p e s m args below meth c C2 hlocks hret => ?_)) g1 g2 hk0 hs0 (by omega) (by omega) (ih _ _ _ _ _ _ _ h C (Int.le_trans hk0 g1) (Nat.le_trans hs0 g2) hr1 hr2 hE)
                  exact ih _ _ _ _ _ _ _ hy C2 (Int.le_refl _) (Nat.le_refl _) (Nat.le_refl _) (Nat.le_refl _) (fun i' L' st' hrt => ab_rt_W C2 hlocks hret hrt hnt)
                · cases hs
            · cases hs
          · have hm := ab_ex_mono hs
            exact ab_ex_ok C ho hs hk0 hs0 (by omega) (by omega) (ih _ _ _ _ _ _ _ h C (Int.le_trans hk0 hm.1) (Nat.le_trans hs0 hm.2) hr1 hr2 hE)
end
section
/-! ===== BEGIN words of one list among another's, by their places ===== -/
theorem goodIn_r {big : List Cond} (ws : List Cond) (ps : List Nat) (hp : ws = ps.filterMap (fun i => big[i]?)) (h : ws.all goodWord = true) : GoodIn big ws := by
  intro w hw
  have h1 := List.all_eq_true.mp h w hw
  rw [hp] at hw
  obtain ⟨i, -, hi⟩ := List.mem_filterMap.mp hw
  have hm : w ∈ big := by first | exact List.mem_of_getElem? hi | exact List.getElem?_mem hi
  exact ⟨hm, good_of_word h1⟩
theorem goodIn_app {big a b : List Cond} (ha : GoodIn big a) (hb : GoodIn big b) : GoodIn big (a ++ b) := fun w h => (List.mem_append.mp h).elim (ha w) (hb w)
theorem goodIn_ca {big a b : List Cond} {c : Cond} (ha : GoodIn big (c :: a)) (hb : GoodIn big b) : GoodIn big (c :: (a ++ b)) := fun w h => (List.mem_cons.mp h).elim (fun e => ha w (List.mem_cons.mpr (Or.inl e))) (fun h => (List.mem_append.mp h).elim (fun h => ha w (List.mem_cons.mpr (Or.inr h))) (hb w))
theorem goodIn_sub {big ws : List Cond} (hm : ∀ w ∈ ws, w ∈ big) (h : ws.all goodWord = true) : GoodIn big ws := fun w hw => ⟨hm w hw, good_of_word (List.all_eq_true.mp h w hw)⟩
/-! ===== END ===== -/
/-! ===== BEGIN exceptions that leave a method, and their catching by the caller (launches without stack traces) ===== -/
section VXA
/-! The laws vx_back, vx_callV, vx_callS, vx_callSW, vx_throw0, vx_throwS follow proofs of the library, with one case more: JvmDerived/Free/Laws.lean (Back.of_free), Shelf42/LK1.lean (callV, callS), Shelf/KitTraced.lean (throwNew0V, throwNewS). -/
/-- where a method has thrown q: the class by its name, the cell, what was written, the world -/
def vx_T (XC : String → State → State → Prop) (st : State) (q : Addr) (t : State) (mc ms : Nat) (free : Addr → Prop) : Prop :=
  ∃ (E : String) (ce : Cell) (L : List Loc), XC E st t ∧ t.heap[q]? = some ce ∧ ce.vm = .none ∧ st.vm.findClass E = some ce.cls ∧ st.WarmedH t.vm ∧ st.sameButNew ({ t with vm := st.vm } : State) L mc ms ∧ ∀ z ∈ L, free z.base
def vx_Q (Qc : Array Value → State → Outcome → State → Prop) (XC : String → State → State → Prop) (mc ms : Nat) (free : Addr → Prop) : Array Value → State → Outcome → State → Prop := fun a st o t =>
  (Qc a st o t ∧ ∃ L, FrameEnd st o t L mc ms ∧ ∀ q ∈ L, free q.base) ∨ ∃ q, o = .threw q ∧ vx_T XC st q t mc ms free
/-- a callee that returns or throws -/
def vx_Met (l : Launch) (y : MethodName) (ws : List Cond) (rm : Room) (Pc : Array Value → State → Prop) (Qc : Array Value → State → Outcome → State → Prop) (XC : String → State → State → Prop) (mc ms : Nat) (free : Addr → Prop) : Prop :=
  MetFree l y (headSpec ws rm) Pc (fun _ _ _ _ _ => True) (vx_Q Qc XC mc ms free)
def vx_Post (XC : String → State → State → Prop) (mc ms : Nat) (free : Addr → Prop) : Pt → Array Value → Addr → Pt → Prop := fun A a q B =>
  ∃ (g : JFrame) (mk : MethodId) (t : State) (L : List Loc) (E : String) (ce : Cell), B.U.heap = t.heap ∧ B.U.vm = t.vm ∧ XC E (A.U.calling g mk a) t ∧ t.heap[q]? = some ce ∧ ce.vm = .none ∧ A.U.vm.findClass E = some ce.cls ∧ B.locs = A.locs ++ L ∧ (∀ z ∈ L, free z.base) ∧ B.cells = A.cells + mc ∧ B.slots = A.slots + ms
def vx_Back (l : Launch) (R : Room) (p : Program) (e : Env) (below : List Frame) (s : State) (sargs : Array Value) (y : MethodName) (len W9 : Nat)
    (Pre : Pt → Array Value → Prop) (Post : Pt → Array Value → Option Value → Pt → Prop) (PostX : Pt → Array Value → Addr → Pt → Prop) : Prop :=
  ∀ (m : MethodId) (meth : Method) (c : Code) (A : Pt) (g : JFrame) (ig : Instr) (mk : MethodId) (a : Array Value),
    Stand p l e R s m sargs below meth c A.U A.locs A.cells A.slots → g.method = m → g.locals.size = c.maxLocals → decode c.code g.pc = .ok (ig, len) →
    2 * g.monitorRoom + (g.stack.map fun v => v.category).sum ≤ W9 → A.U.methodNamed? y = some mk → Pre A a →
    (∃ (v : Option Value) (B : Pt), Stand p l e R s m sargs below meth c B.U B.locs B.cells B.slots ∧ Post A a v B ∧
      Steps p.tables e below (doInvoke e (A.U.setTop g) [] mk a).1 (B.U.setTop { g with pc := g.pc + len, stack := v.toList ++ g.stack })) ∨
    (∃ (q : Addr) (B : Pt), Stand p l e R s m sargs below meth c B.U B.locs B.cells B.slots ∧ PostX A a q B ∧
      Steps p.tables e below (doInvoke e (A.U.setTop g) [] mk a).1 ((B.U.setTop g).pushFrame (.throwing q)))
section Payer
variable {l : Launch} {R : Room} {p : Program} {e : Env} {below : List Frame} {s : State} {sargs : Array Value} {y : MethodName} {len W9 : Nat}
theorem vx_back {ws : List Cond} {rm : Room} {Pc : Array Value → State → Prop} {Qc : Array Value → State → Outcome → State → Prop} {XC : String → State → State → Prop} {mc ms : Nat} {free : Addr → Prop} {bytes : ByteArray} {maxL : Nat} {ret : Option FieldType}
    (hM : vx_Met l y ws rm Pc Qc XC mc ms free) (hblind : FrameBlind Pc) (hrc : rm.cells = mc) (hrs : rm.slots = ms)
    (hframes : rm.frames + 1 ≤ R.frames) (hlocals : W9 + (maxL + 11) + rm.locals ≤ R.locals)
    (hws : ∀ w ∈ ws, ∀ a' U, s.WarmedH U.vm → w.before a' U = true) (hcode : Cond.code y bytes maxL ret ∈ ws) (hinit : ∀ a' U, s.WarmedH U.vm → (Cond.initialized y.cls).before a' U = true) :
    vx_Back l R p e below s sargs y len W9 (PreOf R mc ms Pc) (PostOf Qc mc ms free) (vx_Post XC mc ms free) := by
  intro m meth c A g ig mk a X hg hsize hdg hW hn hp
  have h1 : (headSpec ws rm).pre.before a A.U = true := atoms_intro fun w hw => hws w hw _ _ X.warmed
  have h2 : (Cond.code y bytes maxL ret).before a A.U = true := hws _ hcode _ _ X.warmed
  have h3 : (Cond.initialized y.cls).before a A.U = true := hinit _ _ X.warmed
  have h4 : A.cells + (headSpec ws rm).room.cells ≤ R.cells := by rw [show (headSpec ws rm).room.cells = mc from hrc]; exact hp.1
  have h5 : A.slots + (headSpec ws rm).room.slots ≤ R.slots := by rw [show (headSpec ws rm).room.slots = ms from hrs]; exact hp.2.1
  have hPc : Pc a (A.U.calling g mk a) := hblind _ _ _ _ hp.2.2
  obtain ⟨U, Ls, c0, s0⟩ := A
  dsimp only [Pt.U, Pt.locs, Pt.cells, Pt.slots] at h1 h2 h3 h4 h5 X hn hPc ⊢
  obtain ⟨methY, cY, hmY, hcY, -, hlY, -, -, -, -⟩ := Cond.code_spec hn h2
  obtain ⟨kY, hkY, -⟩ := className_of_methodNamed hn
  have hinitY : kY.init = .initialized := Cond.initialized_spec (findClass_of_methodNamed hn) hkY h3
  have h : At U g.method c below := by rw [hg]; exact X.here
  have hlocals9 : W9 + (maxL + 11) + (headSpec ws rm).room.locals ≤ R.locals := hlocals
  have happ : (headSpec ws rm).appliesLoose y e.platform (U.calling g mk a) = true :=
    Spec.appliesLoose_calling (g := g) h hdg hn hkY hinitY
      (X.room_calling (g := g) (R' := (headSpec ws rm).room) hsize hmY hcY hframes (by rw [hlY]; omega) h4 h5) h1
  obtain ⟨mid, hmid⟩ := h.above
  have hfr : (U.setTop g).frames = (.java g :: mid) ++ below := by rw [State.frames_setTop' g h.top, hmid]; rfl
  obtain ⟨o, s₂, hsteps, -, hend, hq⟩ := Steps.callFree hM p X.admits X.cas X.clock (acts := []) hfr happ hPc trivial
  have hq' : vx_Q Qc XC mc ms free a (U.calling g mk a) o s₂ := hq
  rw [State.frames_setTop' g h.top] at hend
  obtain ⟨g₀, hg0⟩ := Option.isSome_iff_exists.mp h.top
  obtain ⟨r, hr⟩ := State.topJava?_eq_some.mp hg0
  have hr' : (({ U with heap := s₂.heap, slotsUsed := s₂.slotsUsed } : State).setVm s₂.vm).frames = .java g₀ :: r := hr
  rcases hq' with ⟨hqc, L, hfe, hL⟩ | ⟨q, rfl, E, ce, L, hx, hce, hcv, hcl, hW₂, hsm, hL⟩
  · obtain ⟨⟨v, rfl⟩, hW₂, e2, q2, q3, q4, q5, q6⟩ := id hfe
    have e3 : s₂ = ({ (U.calling g mk a).setFrames s₂.frames with heap := s₂.heap, slotsUsed := s₂.slotsUsed } : State).setVm s₂.vm := by
      have : s₂ = ({ s₂ with vm := (U.calling g mk a).vm } : State).setVm s₂.vm := rfl
      rw [e2] at this
      exact this
    obtain ⟨c₂, i₂, len₂, hc₂, hd₂, hf₂⟩ := hend
    have hW' : U.WarmedH s₂.vm := hW₂
    have hcc : c₂ = c := by
      have h1 : s₂.code? g.method = U.code? g.method := by
        rw [State.code?_eq, State.code?_eq, hW'.alike.method?]
      exact Option.some.inj (hc₂.symm.trans (h1.trans h.code))
    subst hcc
    have hlen : len₂ = len := by rw [hdg] at hd₂; cases hd₂; rfl
    subst hlen
    have hs₂ : s₂ = (({ U with heap := s₂.heap, slotsUsed := s₂.slotsUsed } : State).setVm s₂.vm).setTop { g with pc := g.pc + len₂, stack := v.toList ++ g.stack } := by
      refine e3.trans ?_
      rw [hf₂, State.calling_eq h.top, State.setFrames_setFrames, State.setTop_of_frames _ hr', hr]
      rfl
    have hsame : U.sameButNew ({ U with heap := s₂.heap, slotsUsed := s₂.slotsUsed } : State) L mc ms := by
      refine ⟨?_, q2, q3, q4, q5, q6⟩
      obtain ⟨t, ht, -⟩ := State.frames_cons hr
      show ({ U with heap := s₂.heap, slotsUsed := s₂.slotsUsed } : State) = { U.setFrames U.frames with heap := s₂.heap, slotsUsed := s₂.slotsUsed }
      rw [State.setFrames_self ht]
    subst hg
    refine Or.inl ⟨v, ⟨(({ U with heap := s₂.heap, slotsUsed := s₂.slotsUsed } : State).setVm s₂.vm), Ls ++ L, c0 + mc, s0 + ms⟩,
      ⟨X.admits, X.cas, X.clock, X.frames, X.room, X.hears, X.method, X.code, (X.here.setHeapUsed s₂.heap s₂.slotsUsed).setVm hW'.alike, X.tail, State.WarmedH.trans X.warmed hW', X.limits, X.bytes, X.same.trans (hsame.setVm s.vm)⟩,
      ⟨g, mk, s₂, L, rfl, rfl, hqc, rfl, hL, rfl, rfl⟩, ?_⟩
    show Steps p.tables e below _ ((({ U with heap := s₂.heap, slotsUsed := s₂.slotsUsed } : State).setVm s₂.vm).setTop { g with pc := g.pc + len₂, stack := v.toList ++ g.stack })
    rw [← hs₂]
    exact hsteps
  · obtain ⟨e2, q2, q3, q4, q5, q6⟩ := id hsm
    have e3 : s₂ = ({ (U.calling g mk a).setFrames s₂.frames with heap := s₂.heap, slotsUsed := s₂.slotsUsed } : State).setVm s₂.vm := by
      have : s₂ = ({ s₂ with vm := (U.calling g mk a).vm } : State).setVm s₂.vm := rfl
      rw [e2] at this
      exact this
    have hf₂ : s₂.frames = .throwing q :: .java g :: U.frames.tail := hend
    have hW' : U.WarmedH s₂.vm := hW₂
    have hs₂ : s₂ = ((({ U with heap := s₂.heap, slotsUsed := s₂.slotsUsed } : State).setVm s₂.vm).setTop g).pushFrame (.throwing q) := by
      refine e3.trans ?_
      rw [hf₂, State.calling_eq h.top, State.setFrames_setFrames, State.pushFrame, State.frames_setTop _ hr', State.setTop_of_frames _ hr', State.setFrames_setFrames, hr]
      rfl
    have hsame : U.sameButNew ({ U with heap := s₂.heap, slotsUsed := s₂.slotsUsed } : State) L mc ms := by
      refine ⟨?_, q2, q3, q4, q5, q6⟩
      obtain ⟨t, ht, -⟩ := State.frames_cons hr
      show ({ U with heap := s₂.heap, slotsUsed := s₂.slotsUsed } : State) = { U.setFrames U.frames with heap := s₂.heap, slotsUsed := s₂.slotsUsed }
      rw [State.setFrames_self ht]
    subst hg
    refine Or.inr ⟨q, ⟨(({ U with heap := s₂.heap, slotsUsed := s₂.slotsUsed } : State).setVm s₂.vm), Ls ++ L, c0 + mc, s0 + ms⟩,
      ⟨X.admits, X.cas, X.clock, X.frames, X.room, X.hears, X.method, X.code, (X.here.setHeapUsed s₂.heap s₂.slotsUsed).setVm hW'.alike, X.tail, State.WarmedH.trans X.warmed hW', X.limits, X.bytes, X.same.trans (hsame.setVm s.vm)⟩,
      ⟨g, mk, s₂, L, E, ce, rfl, rfl, hx, hce, hcv, hcl, rfl, hL, rfl, rfl⟩, ?_⟩
    show Steps p.tables e below _ (((({ U with heap := s₂.heap, slotsUsed := s₂.slotsUsed } : State).setVm s₂.vm).setTop g).pushFrame (.throwing q))
    rw [← hs₂]
    exact hsteps
end Payer
section Calls
variable {p : Program} {l : Launch} {e : Env} {R : Room} {s : State} {m : MethodId} {args : Array Value} {below : List Frame} {meth : Method} {c : Code} {T : State} {locs : List Loc} {cells slots : Nat}
theorem vx_callV (X : Stand p l e R s m args below meth c T locs cells slots) (hexec : p.tables.exec = Jvm.exec) {own C : String} {index : Nat} {y : MethodName} {bytes : ByteArray} {maxL : Nat} {ret : Option FieldType}
    (hown : s.vm.findClass own = some m.cls) (hlink : (Cond.methodLink own index y).before args s = true) (hinst : (Cond.instanceMethod y).before args s = true) (hsel : (Cond.selects C y y).before args s = true)
    (hcode : (Cond.code y bytes maxL ret).before args s = true) (hy : y.cls ≠ "java/lang/invoke/MethodHandle" ∧ y.cls ≠ "java/lang/invoke/VarHandle")
    {W9 : Nat} {Pre : Pt → Array Value → Prop} {Post : Pt → Array Value → Option Value → Pt → Prop} {PostX : Pt → Array Value → Addr → Pt → Prop} (hK : vx_Back l R p e below s args y 3 W9 Pre Post PostX)
    {b : Addr} {cellB : Cell} (hcell : T.heap[b]? = some cellB) (hobj : cellB.vm.isStatics = false) (hcls : s.vm.findClass C = some cellB.cls)
    {g : JFrame} (hg : g.method = m) (hsize : g.locals.size = c.maxLocals) {argsL rest : List Value} (hlen : ∀ sig, parseMethodDescriptor y.desc = some sig → argsL.length = sig.parameters.length)
    (hstack : g.stack = argsL.reverse ++ .ref b :: rest) (hW : 2 * g.monitorRoom + (rest.map fun v => v.category).sum ≤ W9) (hdg : decode c.code g.pc = .ok (.invokevirtual index, 3))
    (hpre : ∀ vm₁, s.WarmedH vm₁ → Pre ⟨T.setVm vm₁, locs, cells, slots⟩ (Value.ref b :: argsL).toArray) :
    (∃ (v : Option Value) (vm₁ : Vm) (B : Pt), s.WarmedH vm₁ ∧ Stand p l e R s m args below meth c B.U B.locs B.cells B.slots ∧ Post ⟨T.setVm vm₁, locs, cells, slots⟩ (Value.ref b :: argsL).toArray v B ∧
      ∀ target, Steps p.tables e below (B.U.setTop { g with pc := g.pc + 3, stack := v.toList ++ rest }) target → Steps p.tables e below (T.setTop g) target) ∨
    (∃ (q : Addr) (vm₁ : Vm) (B : Pt), s.WarmedH vm₁ ∧ Stand p l e R s m args below meth c B.U B.locs B.cells B.slots ∧ PostX ⟨T.setVm vm₁, locs, cells, slots⟩ (Value.ref b :: argsL).toArray q B ∧
      Steps p.tables e below (T.setTop g) ((B.U.setTop { g with stack := rest }).pushFrame (.throwing q))) := by
  obtain ⟨mk, methM, hnamed, hmethM, hstM, habM⟩ := Cond.instanceMethod_spec hinst
  obtain ⟨methM', cM, hmethM', -, -, -, -, -, -, hsigM⟩ := Cond.code_spec hnamed hcode
  cases hmethM.symm.trans hmethM'
  obtain ⟨c2, r2, m2, q1, q2, q3, q4, kP, hkP, hkPi⟩ := Cond.selects_spec hsel
  cases hcls.symm.trans q1
  cases (State.methodFound?_of_named hnamed hy).symm.trans q2
  cases hnamed.symm.trans q3
  have hselP : selectMethod e.platform s.vm cellB.cls mk = .method mk := by rw [Launch.admits_selectMethod X.admits]; exact q4
  obtain ⟨vm₁, X₁, hstep₁⟩ := X.invokevirtual hexec hown hlink hnamed hmethM hstM hkP hkPi hy (a := b) (cell := cellB) hcell
    (fun z h => by rw [h] at hobj; cases hobj) hselP hmethM habM hkP hkPi (g := g) hg (argsL := argsL) (rest := rest) (hlen _ hsigM) hstack hdg
  rcases hK m meth c ⟨T.setVm vm₁, locs, cells, slots⟩ { g with stack := rest } (.invokevirtual index) mk (Value.ref b :: argsL).toArray X₁ hg hsize hdg hW (X₁.named hnamed) (hpre vm₁ X₁.warmed) with ⟨v, B, X', hpost, hsteps⟩ | ⟨q, B, X', hpost, hsteps⟩
  · exact Or.inl ⟨v, vm₁, B, X₁.warmed, X', hpost, fun target h => hstep₁ _ fun acts => by rw [doInvoke_state]; exact hsteps.trans h⟩
  · exact Or.inr ⟨q, vm₁, B, X₁.warmed, X', hpost, hstep₁ _ fun acts => by rw [doInvoke_state]; exact hsteps⟩
theorem vx_callS (X : Stand p l e R s m args below meth c T locs cells slots) (hexec : p.tables.exec = Jvm.exec) {own : String} {index : Nat} {y : MethodName} {bytes : ByteArray} {maxL : Nat} {ret : Option FieldType}
    (hown : s.vm.findClass own = some m.cls) (hlink : (Cond.methodLink own index y).before args s = true) (hstat : (Cond.static y).before args s = true) (hinit : (Cond.initialized y.cls).before args s = true)
    (hcode : (Cond.code y bytes maxL ret).before args s = true) (hy : y.cls ≠ "java/lang/invoke/MethodHandle" ∧ y.cls ≠ "java/lang/invoke/VarHandle")
    {W9 : Nat} {Pre : Pt → Array Value → Prop} {Post : Pt → Array Value → Option Value → Pt → Prop} {PostX : Pt → Array Value → Addr → Pt → Prop} (hK : vx_Back l R p e below s args y 3 W9 Pre Post PostX)
    {g : JFrame} (hg : g.method = m) (hsize : g.locals.size = c.maxLocals) {argsL rest : List Value} (hlen : ∀ sig, parseMethodDescriptor y.desc = some sig → argsL.length = sig.parameters.length)
    (hstack : g.stack = argsL.reverse ++ rest) (hW : 2 * g.monitorRoom + (rest.map fun v => v.category).sum ≤ W9) (hdg : decode c.code g.pc = .ok (.invokestatic index, 3))
    (hpre : ∀ vm₁, s.WarmedH vm₁ → Pre ⟨T.setVm vm₁, locs, cells, slots⟩ argsL.toArray) :
    (∃ (v : Option Value) (vm₁ : Vm) (B : Pt), s.WarmedH vm₁ ∧ Stand p l e R s m args below meth c B.U B.locs B.cells B.slots ∧ Post ⟨T.setVm vm₁, locs, cells, slots⟩ argsL.toArray v B ∧
      ∀ target, Steps p.tables e below (B.U.setTop { g with pc := g.pc + 3, stack := v.toList ++ rest }) target → Steps p.tables e below (T.setTop g) target) ∨
    (∃ (q : Addr) (vm₁ : Vm) (B : Pt), s.WarmedH vm₁ ∧ Stand p l e R s m args below meth c B.U B.locs B.cells B.slots ∧ PostX ⟨T.setVm vm₁, locs, cells, slots⟩ argsL.toArray q B ∧
      Steps p.tables e below (T.setTop g) ((B.U.setTop { g with stack := rest }).pushFrame (.throwing q))) := by
  obtain ⟨mk, hnamed⟩ := Cond.code_named hcode
  obtain ⟨methM, cM, hmethM, -, -, -, -, -, -, hsigM⟩ := Cond.code_spec hnamed hcode
  have hstatic : methM.isStatic = true := Cond.static_spec hnamed hmethM hstat
  obtain ⟨kP, hkP, -⟩ := className_of_methodNamed hnamed
  have hinitP : kP.init = .initialized := Cond.initialized_spec (findClass_of_methodNamed hnamed) hkP hinit
  obtain ⟨vm₁, X₁, hstep₁⟩ := X.invokestatic hexec hown hlink hnamed hmethM hstatic hkP hinitP hy (g := g) hg (argsL := argsL) (rest := rest) (hlen _ hsigM) hstack hdg
  rcases hK m meth c ⟨T.setVm vm₁, locs, cells, slots⟩ { g with stack := rest } (.invokestatic index) mk argsL.toArray X₁ hg hsize hdg hW (X₁.named hnamed) (hpre vm₁ X₁.warmed) with ⟨v, B, X', hpost, hsteps⟩ | ⟨q, B, X', hpost, hsteps⟩
  · exact Or.inl ⟨v, vm₁, B, X₁.warmed, X', hpost, fun target h => hstep₁ _ fun acts => by rw [doInvoke_state]; exact hsteps.trans h⟩
  · exact Or.inr ⟨q, vm₁, B, X₁.warmed, X', hpost, hstep₁ _ fun acts => by rw [doInvoke_state]; exact hsteps⟩
end Calls
theorem vx_cls {s : State} {T : State} {vm₁ : Vm} {E : String} {k : ClassId} (hW : s.WarmedH vm₁) (h : (T.setVm vm₁).vm.findClass E = some k) : s.vm.findClass E = some k := by
  have h1 : vm₁.findClass E = some k := h
  rw [hW.alike.findClass] at h1
  exact h1
/-- the method's frame g, with q thrown over it -/
def vx_W (p : Program) (l : Launch) (e : Env) (R : Room) (s : State) (m : MethodId) (args : Array Value) (below : List Frame) (meth : Method) (c : Code) (H : Heap) (locs : List Loc) (cells slots : Nat) (Q : State → Prop) (g : JFrame) (q : Addr) : Prop :=
  ∀ T : State, T.heap = H → Stand p l e R s m args below meth c T locs cells slots → ∃ t, Steps p.tables e below ((T.setTop g).pushFrame (.throwing q)) t ∧ Q t
def vx_Run (p : Program) (l : Launch) (e : Env) (R : Room) (s : State) (m : MethodId) (args : Array Value) (below : List Frame) (meth : Method) (c : Code) (H : Heap) (locs : List Loc) (cells slots mc ms : Nat) (g : JFrame) (rest : List Value) (Qa : State → Outcome → State → Prop) (XC : String → State → State → Prop) (free : Addr → Prop) : Prop :=
  ∀ T : State, T.heap = H → Stand p l e R s m args below meth c T locs cells slots →
    (∃ (v : Option Value) (st₀ t T' : State) (L : List Loc), st₀.heap = H ∧ Stand p l e R s m args below meth c T' (locs ++ L) (cells + mc) (slots + ms) ∧ (∀ q ∈ L, free q.base) ∧ T'.heap = t.heap ∧ T'.vm = t.vm ∧ Qa st₀ (.returned v) t ∧
      Goes p e below T g T' { g with pc := g.pc + 3, stack := v.toList ++ rest }) ∨
    (∃ (q : Addr) (st₀ t T' : State) (L : List Loc) (E : String) (ce : Cell), st₀.heap = H ∧ Stand p l e R s m args below meth c T' (locs ++ L) (cells + mc) (slots + ms) ∧ (∀ z ∈ L, free z.base) ∧ T'.heap = t.heap ∧ T'.vm = t.vm ∧ XC E st₀ t ∧ t.heap[q]? = some ce ∧ ce.vm = .none ∧ s.vm.findClass E = some ce.cls ∧
      Steps p.tables e below (T.setTop g) ((T'.setTop { g with stack := rest }).pushFrame (.throwing q)))
def vx_X {S : Type} (px : S → Prop) (B : String → S → State → Prop) (A : Nat → Prop) : String → State → State → Prop := fun E st t => ∃ u : S, px u ∧ B E u t ∧ va_F A st t
section Runs
variable {p : Program} {l : Launch} {e : Env} {R : Room} {s : State} {m : MethodId} {args : Array Value} {below : List Frame} {meth : Method} {c : Code} {H : Heap} {locs : List Loc} {cells slots : Nat}
variable {y : MethodName} {bytes cc : ByteArray} {maxL nL mc ms n index : Nat} {ret : Option FieldType} {ws : List Cond} {rm : Room} {Pc : Array Value → State → Prop} {Qc : Array Value → State → Outcome → State → Prop} {XC : String → State → State → Prop} {free : Addr → Prop} {Ts : List Cond} {own C : String} {b : Addr} {As rest : List Value} {g : JFrame}
theorem vx_callBack (cb : CallB R s args own index y bytes maxL ret ws rm mc ms n) (hM : vx_Met l y ws rm Pc Qc XC mc ms free) (hbl : FrameBlind Pc) : vx_Back l R p e below s args y 3 8 (PreOf R mc ms Pc) (PostOf Qc mc ms free) (vx_Post XC mc ms free) := by
  obtain ⟨hrc, hrs, hfr, hlo, hws, hcw, -, hini, -⟩ := cb
  exact vx_back (bytes := bytes) (maxL := maxL) (ret := ret) hM hbl hrc hrs hfr hlo hws hcw (fun a' U hW => word_at hW (Or.inl (by first | rfl | simp [Cond.onTables, Cond.keeps, Cond.steady])) hini)
theorem vx_runV (S : CallFix p m c cc nL s args Ts own) (hM : vx_Met l y ws rm Pc Qc XC mc ms free) (cw : CallW R s args own C index y bytes maxL ret ws rm mc ms n) (hp : PreV s H C b Pc As)
    (hg : g.method = m) (hn : As.length = n) (hsize : g.locals.size = nL) (hstack : g.stack = As.reverse ++ .ref b :: rest) (hW : 2 * g.monitorRoom + (rest.map fun v => v.category).sum ≤ 8) (hdg : decode cc g.pc = .ok (.invokevirtual index, 3)) (hf : cells + mc ≤ R.cells ∧ slots + ms ≤ R.slots) :
    vx_Run p l e R s m args below meth c H locs cells slots mc ms g rest (Qc (Value.ref b :: As).toArray) XC free := by
  have hK : vx_Back l R p e below s args y 3 8 (PreOf R mc ms Pc) (PostOf Qc mc ms free) (vx_Post XC mc ms free) := vx_callBack cw.1 hM hp.1
  obtain ⟨⟨-, -, -, -, -, -, hcode, -, hy, hlen, hl⟩, hin, hse⟩ := cw
  obtain ⟨hx, hb, hml, ho, -⟩ := S
  obtain ⟨-, ⟨cellB, hcB, hoB, hclB⟩, hPc⟩ := hp
  intro T hT X
  rcases vx_callV X hx (C := C) (bytes := bytes) (maxL := maxL) (ret := ret) ho hl hin hse hcode hy hK (by rw [hT]; exact hcB) hoB hclB hg (hsize.trans hml.symm) (argsL := As) (rest := rest) (fun sig h => hn.trans (hlen sig h)) hstack hW (by rw [hb]; exact hdg)
    (fun vm₁ hW₁ => ⟨hf.1, hf.2, hPc (T.setVm vm₁) hT hW₁⟩) with ⟨v, vm₁, ⟨U', l2, c2, s2⟩, hW₁, X', ⟨g', mk, t, L, e1, e2, hq, h1, hL, h2, h3⟩, st⟩ | ⟨q, vm₁, ⟨U', l2, c2, s2⟩, hW₁, X', ⟨g', mk, t, L, E, ce, e1, e2, hq, hce, hcv, hcl, h1, hL, h2, h3⟩, st⟩
  · dsimp only [Pt.U, Pt.locs, Pt.cells, Pt.slots] at X' e1 e2 h1 h2 h3 st
    subst h1; subst h2; subst h3
    exact Or.inl ⟨v, (T.setVm vm₁).calling g' mk (Value.ref b :: As).toArray, t, U', L, hT, X', hL, e1, e2, hq, st⟩
  · dsimp only [Pt.U, Pt.locs, Pt.cells, Pt.slots] at X' e1 e2 h1 h2 h3 st hcl
    subst h1; subst h2; subst h3
    exact Or.inr ⟨q, (T.setVm vm₁).calling g' mk (Value.ref b :: As).toArray, t, U', L, E, ce, hT, X', hL, e1, e2, hq, hce, hcv, vx_cls hW₁ hcl, st⟩
theorem vx_runS (S : CallFix p m c cc nL s args Ts own) (hM : vx_Met l y ws rm Pc Qc XC mc ms free) (cw : CallB R s args own index y bytes maxL ret ws rm mc ms n ∧ (Cond.static y).before args s = true) (hp : PreS s H Pc As)
    (hg : g.method = m) (hn : As.length = n) (hsize : g.locals.size = nL) (hstack : g.stack = As.reverse ++ rest) (hW : 2 * g.monitorRoom + (rest.map fun v => v.category).sum ≤ 8) (hdg : decode cc g.pc = .ok (.invokestatic index, 3)) (hf : cells + mc ≤ R.cells ∧ slots + ms ≤ R.slots) :
    vx_Run p l e R s m args below meth c H locs cells slots mc ms g rest (Qc As.toArray) XC free := by
  have hK : vx_Back l R p e below s args y 3 8 (PreOf R mc ms Pc) (PostOf Qc mc ms free) (vx_Post XC mc ms free) := vx_callBack cw.1 hM hp.1
  obtain ⟨⟨-, -, -, -, -, -, hcode, hini, hy, hlen, hl⟩, hstt⟩ := cw
  obtain ⟨hx, hb, hml, ho, -⟩ := S
  intro T hT X
  rcases vx_callS X hx (bytes := bytes) (maxL := maxL) (ret := ret) ho hl hstt hini hcode hy hK hg (hsize.trans hml.symm) (argsL := As) (rest := rest) (fun sig h => hn.trans (hlen sig h)) hstack hW (by rw [hb]; exact hdg)
    (fun vm₁ hW₁ => ⟨hf.1, hf.2, hp.2 (T.setVm vm₁) hT hW₁⟩) with ⟨v, vm₁, ⟨U', l2, c2, s2⟩, hW₁, X', ⟨g', mk, t, L, e1, e2, hq, h1, hL, h2, h3⟩, st⟩ | ⟨q, vm₁, ⟨U', l2, c2, s2⟩, hW₁, X', ⟨g', mk, t, L, E, ce, e1, e2, hq, hce, hcv, hcl, h1, hL, h2, h3⟩, st⟩
  · dsimp only [Pt.U, Pt.locs, Pt.cells, Pt.slots] at X' e1 e2 h1 h2 h3 st
    subst h1; subst h2; subst h3
    exact Or.inl ⟨v, (T.setVm vm₁).calling g' mk As.toArray, t, U', L, hT, X', hL, e1, e2, hq, st⟩
  · dsimp only [Pt.U, Pt.locs, Pt.cells, Pt.slots] at X' e1 e2 h1 h2 h3 st hcl
    subst h1; subst h2; subst h3
    exact Or.inr ⟨q, (T.setVm vm₁).calling g' mk As.toArray, t, U', L, E, ce, hT, X', hL, e1, e2, hq, hce, hcv, vx_cls hW₁ hcl, st⟩
end Runs
section Rows
variable {p : Program} {l : Launch} {e : Env} {R : Room} {s : State} {m : MethodId} {args : Array Value} {below : List Frame} {meth : Method} {c : Code} {H : Heap} {locs : List Loc} {cells slots : Nat} {Q : State → Prop}
variable {mc ms : Nat} {free : Addr → Prop} {A0 A1 : Nat → Prop} {H0 : Heap} {a : Array Value} {pc : Nat} {ls : Array Slot} {st0 rest : List Value}
theorem vx_keep {st₀ t T' : State} {L : List Loc} (h0 : st₀.heap = H) (e1 : T'.heap = t.heap) (hS : va_S A0 H0 H locs) (hA : ∀ q, q < H.size → A1 q → A0 q) (hf : ∀ q, free q → A0 q) (hL : ∀ q ∈ L, free q.base) (hF : va_F A1 st₀ t) :
    H.size ≤ T'.heap.size ∧ (∀ q : Nat, q < H.size → ¬ A1 q → T'.heap[q]? = H[q]?) ∧ va_S A0 H0 T'.heap (locs ++ L) := by
  obtain ⟨hz, hk⟩ := hF
  rw [h0] at hz hk
  exact ⟨by rw [e1]; exact hz, fun q h1 h2 => by rw [e1]; exact hk q h1 h2,
    ⟨Nat.le_trans hS.1 (by rw [e1]; exact hz), fun q h1 h2 => by rw [e1, hk q (Nat.lt_of_lt_of_le h1 hS.1) (fun z => h2 (hA q (Nat.lt_of_lt_of_le h1 hS.1) z))]; exact hS.2.1 q h1 h2, fun q hq => by
      rcases List.mem_append.mp hq with h | h
      · exact hS.2.2 q h
      · exact hf _ (hL q h)⟩⟩
theorem vx_calli {S SX : Type} {post : Int32 → S → Prop} {px : SX → Prop} {B : S → State → Prop} {BX : String → SX → State → Prop} {AX : Nat → Prop} (hr : vx_Run p l e R s m args below meth c H locs cells slots mc ms (F0 m pc ls st0) rest (va_Qi post B A1 a) (vx_X px BX AX) free) (hS : va_S A0 H0 H locs) (hA : ∀ q, q < H.size → A1 q → A0 q) (hf : ∀ q, free q → A0 q) (hAX : ∀ q, q < H.size → AX q → A0 q)
    (kx : ∀ (E : String) (ce : Cell) (q9 : Addr) (u : SX) (t : State) (H1 : Heap) (locs1 : List Loc), t.heap = H1 → s.vm.Alike t.vm → px u → BX E u t → H.size ≤ H1.size → (∀ q : Nat, q < H.size → ¬ AX q → H1[q]? = H[q]?) → va_S A0 H0 H1 locs1 → H1[q9]? = some ce → ce.vm = .none → s.vm.findClass E = some ce.cls → vx_W p l e R s m args below meth c H1 locs1 (cells + mc) (slots + ms) Q (F0 m pc ls rest) q9)
    (kk : ∀ (r : Int32) (u : S) (t : State) (H1 : Heap) (locs1 : List Loc), t.heap = H1 → s.vm.Alike t.vm → post r u → B u t → H.size ≤ H1.size → (∀ q : Nat, q < H.size → ¬ A1 q → H1[q]? = H[q]?) → va_S A0 H0 H1 locs1 → W p l e R s m args below meth c H1 locs1 (cells + mc) (slots + ms) Q (F0 m (pc + 3) ls (.int r :: rest))) : W p l e R s m args below meth c H locs cells slots Q (F0 m pc ls st0) := by
  intro T hT X
  rcases hr T hT X with ⟨v, st₀, t, T', L, h0, X', hL, e1, e2, ⟨⟨r, u, hv, hp, hb⟩, hF⟩, st⟩ | ⟨q, st₀, t, T', L, E, ce, h0, X', hL, e1, e2, ⟨u, hp, hb, hF⟩, hce, hcv, hcl, st⟩
  · cases hv
    obtain ⟨k1, k2, k3⟩ := vx_keep h0 e1 hS hA hf hL hF
    obtain ⟨t2, a1, b1⟩ := kk r u t T'.heap (locs ++ L) e1.symm (by rw [← e2]; exact X'.warmed.alike) hp hb k1 k2 k3 T' rfl X'
    exact ⟨t2, st t2 a1, b1⟩
  · obtain ⟨k1, k2, k3⟩ := vx_keep h0 e1 hS hAX hf hL hF
    obtain ⟨t2, a1, b1⟩ := kx E ce q u t T'.heap (locs ++ L) e1.symm (by rw [← e2]; exact X'.warmed.alike) hp hb k1 k2 k3 (by rw [e1]; exact hce) hcv hcl T' rfl X'
    exact ⟨t2, st.trans a1, b1⟩
theorem vx_calll {S SX : Type} {post : Int64 → S → Prop} {px : SX → Prop} {B : S → State → Prop} {BX : String → SX → State → Prop} {AX : Nat → Prop} (hr : vx_Run p l e R s m args below meth c H locs cells slots mc ms (F0 m pc ls st0) rest (va_Ql post B A1 a) (vx_X px BX AX) free) (hS : va_S A0 H0 H locs) (hA : ∀ q, q < H.size → A1 q → A0 q) (hf : ∀ q, free q → A0 q) (hAX : ∀ q, q < H.size → AX q → A0 q)
    (kx : ∀ (E : String) (ce : Cell) (q9 : Addr) (u : SX) (t : State) (H1 : Heap) (locs1 : List Loc), t.heap = H1 → s.vm.Alike t.vm → px u → BX E u t → H.size ≤ H1.size → (∀ q : Nat, q < H.size → ¬ AX q → H1[q]? = H[q]?) → va_S A0 H0 H1 locs1 → H1[q9]? = some ce → ce.vm = .none → s.vm.findClass E = some ce.cls → vx_W p l e R s m args below meth c H1 locs1 (cells + mc) (slots + ms) Q (F0 m pc ls rest) q9)
    (kk : ∀ (r : Int64) (u : S) (t : State) (H1 : Heap) (locs1 : List Loc), t.heap = H1 → s.vm.Alike t.vm → post r u → B u t → H.size ≤ H1.size → (∀ q : Nat, q < H.size → ¬ A1 q → H1[q]? = H[q]?) → va_S A0 H0 H1 locs1 → W p l e R s m args below meth c H1 locs1 (cells + mc) (slots + ms) Q (F0 m (pc + 3) ls (.long r :: rest))) : W p l e R s m args below meth c H locs cells slots Q (F0 m pc ls st0) := by
  intro T hT X
  rcases hr T hT X with ⟨v, st₀, t, T', L, h0, X', hL, e1, e2, ⟨⟨r, u, hv, hp, hb⟩, hF⟩, st⟩ | ⟨q, st₀, t, T', L, E, ce, h0, X', hL, e1, e2, ⟨u, hp, hb, hF⟩, hce, hcv, hcl, st⟩
  · cases hv
    obtain ⟨k1, k2, k3⟩ := vx_keep h0 e1 hS hA hf hL hF
    obtain ⟨t2, a1, b1⟩ := kk r u t T'.heap (locs ++ L) e1.symm (by rw [← e2]; exact X'.warmed.alike) hp hb k1 k2 k3 T' rfl X'
    exact ⟨t2, st t2 a1, b1⟩
  · obtain ⟨k1, k2, k3⟩ := vx_keep h0 e1 hS hAX hf hL hF
    obtain ⟨t2, a1, b1⟩ := kx E ce q u t T'.heap (locs ++ L) e1.symm (by rw [← e2]; exact X'.warmed.alike) hp hb k1 k2 k3 (by rw [e1]; exact hce) hcv hcl T' rfl X'
    exact ⟨t2, st.trans a1, b1⟩
theorem vx_callf {S SX : Type} {post : UInt32 → S → Prop} {px : SX → Prop} {B : S → State → Prop} {BX : String → SX → State → Prop} {AX : Nat → Prop} (hr : vx_Run p l e R s m args below meth c H locs cells slots mc ms (F0 m pc ls st0) rest (va_Qf post B A1 a) (vx_X px BX AX) free) (hS : va_S A0 H0 H locs) (hA : ∀ q, q < H.size → A1 q → A0 q) (hf : ∀ q, free q → A0 q) (hAX : ∀ q, q < H.size → AX q → A0 q)
    (kx : ∀ (E : String) (ce : Cell) (q9 : Addr) (u : SX) (t : State) (H1 : Heap) (locs1 : List Loc), t.heap = H1 → s.vm.Alike t.vm → px u → BX E u t → H.size ≤ H1.size → (∀ q : Nat, q < H.size → ¬ AX q → H1[q]? = H[q]?) → va_S A0 H0 H1 locs1 → H1[q9]? = some ce → ce.vm = .none → s.vm.findClass E = some ce.cls → vx_W p l e R s m args below meth c H1 locs1 (cells + mc) (slots + ms) Q (F0 m pc ls rest) q9)
    (kk : ∀ (r : UInt32) (u : S) (t : State) (H1 : Heap) (locs1 : List Loc), t.heap = H1 → s.vm.Alike t.vm → post r u → B u t → H.size ≤ H1.size → (∀ q : Nat, q < H.size → ¬ A1 q → H1[q]? = H[q]?) → va_S A0 H0 H1 locs1 → W p l e R s m args below meth c H1 locs1 (cells + mc) (slots + ms) Q (F0 m (pc + 3) ls (.float r :: rest))) : W p l e R s m args below meth c H locs cells slots Q (F0 m pc ls st0) := by
  intro T hT X
  rcases hr T hT X with ⟨v, st₀, t, T', L, h0, X', hL, e1, e2, ⟨⟨r, u, hv, hp, hb⟩, hF⟩, st⟩ | ⟨q, st₀, t, T', L, E, ce, h0, X', hL, e1, e2, ⟨u, hp, hb, hF⟩, hce, hcv, hcl, st⟩
  · cases hv
    obtain ⟨k1, k2, k3⟩ := vx_keep h0 e1 hS hA hf hL hF
    obtain ⟨t2, a1, b1⟩ := kk r u t T'.heap (locs ++ L) e1.symm (by rw [← e2]; exact X'.warmed.alike) hp hb k1 k2 k3 T' rfl X'
    exact ⟨t2, st t2 a1, b1⟩
  · obtain ⟨k1, k2, k3⟩ := vx_keep h0 e1 hS hAX hf hL hF
    obtain ⟨t2, a1, b1⟩ := kx E ce q u t T'.heap (locs ++ L) e1.symm (by rw [← e2]; exact X'.warmed.alike) hp hb k1 k2 k3 (by rw [e1]; exact hce) hcv hcl T' rfl X'
    exact ⟨t2, st.trans a1, b1⟩
theorem vx_calld {S SX : Type} {post : UInt64 → S → Prop} {px : SX → Prop} {B : S → State → Prop} {BX : String → SX → State → Prop} {AX : Nat → Prop} (hr : vx_Run p l e R s m args below meth c H locs cells slots mc ms (F0 m pc ls st0) rest (va_Qd post B A1 a) (vx_X px BX AX) free) (hS : va_S A0 H0 H locs) (hA : ∀ q, q < H.size → A1 q → A0 q) (hf : ∀ q, free q → A0 q) (hAX : ∀ q, q < H.size → AX q → A0 q)
    (kx : ∀ (E : String) (ce : Cell) (q9 : Addr) (u : SX) (t : State) (H1 : Heap) (locs1 : List Loc), t.heap = H1 → s.vm.Alike t.vm → px u → BX E u t → H.size ≤ H1.size → (∀ q : Nat, q < H.size → ¬ AX q → H1[q]? = H[q]?) → va_S A0 H0 H1 locs1 → H1[q9]? = some ce → ce.vm = .none → s.vm.findClass E = some ce.cls → vx_W p l e R s m args below meth c H1 locs1 (cells + mc) (slots + ms) Q (F0 m pc ls rest) q9)
    (kk : ∀ (r : UInt64) (u : S) (t : State) (H1 : Heap) (locs1 : List Loc), t.heap = H1 → s.vm.Alike t.vm → post r u → B u t → H.size ≤ H1.size → (∀ q : Nat, q < H.size → ¬ A1 q → H1[q]? = H[q]?) → va_S A0 H0 H1 locs1 → W p l e R s m args below meth c H1 locs1 (cells + mc) (slots + ms) Q (F0 m (pc + 3) ls (.double r :: rest))) : W p l e R s m args below meth c H locs cells slots Q (F0 m pc ls st0) := by
  intro T hT X
  rcases hr T hT X with ⟨v, st₀, t, T', L, h0, X', hL, e1, e2, ⟨⟨r, u, hv, hp, hb⟩, hF⟩, st⟩ | ⟨q, st₀, t, T', L, E, ce, h0, X', hL, e1, e2, ⟨u, hp, hb, hF⟩, hce, hcv, hcl, st⟩
  · cases hv
    obtain ⟨k1, k2, k3⟩ := vx_keep h0 e1 hS hA hf hL hF
    obtain ⟨t2, a1, b1⟩ := kk r u t T'.heap (locs ++ L) e1.symm (by rw [← e2]; exact X'.warmed.alike) hp hb k1 k2 k3 T' rfl X'
    exact ⟨t2, st t2 a1, b1⟩
  · obtain ⟨k1, k2, k3⟩ := vx_keep h0 e1 hS hAX hf hL hF
    obtain ⟨t2, a1, b1⟩ := kx E ce q u t T'.heap (locs ++ L) e1.symm (by rw [← e2]; exact X'.warmed.alike) hp hb k1 k2 k3 (by rw [e1]; exact hce) hcv hcl T' rfl X'
    exact ⟨t2, st.trans a1, b1⟩
theorem vx_callv {S SX : Type} {post : S → Prop} {px : SX → Prop} {B : S → State → Prop} {BX : String → SX → State → Prop} {AX : Nat → Prop} (hr : vx_Run p l e R s m args below meth c H locs cells slots mc ms (F0 m pc ls st0) rest (va_Qv post B A1 a) (vx_X px BX AX) free) (hS : va_S A0 H0 H locs) (hA : ∀ q, q < H.size → A1 q → A0 q) (hf : ∀ q, free q → A0 q) (hAX : ∀ q, q < H.size → AX q → A0 q)
    (kx : ∀ (E : String) (ce : Cell) (q9 : Addr) (u : SX) (t : State) (H1 : Heap) (locs1 : List Loc), t.heap = H1 → s.vm.Alike t.vm → px u → BX E u t → H.size ≤ H1.size → (∀ q : Nat, q < H.size → ¬ AX q → H1[q]? = H[q]?) → va_S A0 H0 H1 locs1 → H1[q9]? = some ce → ce.vm = .none → s.vm.findClass E = some ce.cls → vx_W p l e R s m args below meth c H1 locs1 (cells + mc) (slots + ms) Q (F0 m pc ls rest) q9)
    (kk : ∀ (u : S) (t : State) (H1 : Heap) (locs1 : List Loc), t.heap = H1 → s.vm.Alike t.vm → post u → B u t → H.size ≤ H1.size → (∀ q : Nat, q < H.size → ¬ A1 q → H1[q]? = H[q]?) → va_S A0 H0 H1 locs1 → W p l e R s m args below meth c H1 locs1 (cells + mc) (slots + ms) Q (F0 m (pc + 3) ls (rest))) : W p l e R s m args below meth c H locs cells slots Q (F0 m pc ls st0) := by
  intro T hT X
  rcases hr T hT X with ⟨v, st₀, t, T', L, h0, X', hL, e1, e2, ⟨⟨u, hv, hp, hb⟩, hF⟩, st⟩ | ⟨q, st₀, t, T', L, E, ce, h0, X', hL, e1, e2, ⟨u, hp, hb, hF⟩, hce, hcv, hcl, st⟩
  · cases hv
    obtain ⟨k1, k2, k3⟩ := vx_keep h0 e1 hS hA hf hL hF
    obtain ⟨t2, a1, b1⟩ := kk u t T'.heap (locs ++ L) e1.symm (by rw [← e2]; exact X'.warmed.alike) hp hb k1 k2 k3 T' rfl X'
    exact ⟨t2, st t2 a1, b1⟩
  · obtain ⟨k1, k2, k3⟩ := vx_keep h0 e1 hS hAX hf hL hF
    obtain ⟨t2, a1, b1⟩ := kx E ce q u t T'.heap (locs ++ L) e1.symm (by rw [← e2]; exact X'.warmed.alike) hp hb k1 k2 k3 (by rw [e1]; exact hce) hcv hcl T' rfl X'
    exact ⟨t2, st.trans a1, b1⟩
/-- caught by the row x of this method's table; the rows ahead don't take it -/
theorem vx_catch {own name : String} {E : String} {ce : Cell} {q : Addr} (hown : s.vm.findClass own = some m.cls) (pre : List ExceptionTableEntry) (x : ExceptionTableEntry) (suf : List ExceptionTableEntry) (hsplit : c.exceptionTable.toList = pre ++ x :: suf)
    (hpass : ∀ z ∈ pre, covers z pc = false ∨ (z.catchType ≠ 0 ∧ ∃ nm : String, (Cond.classLink own z.catchType nm).before args s = true ∧ va_Nc E nm s)) (hx : covers x pc = true) (h0 : x.catchType ≠ 0)
    (hlink : (Cond.classLink own x.catchType name).before args s = true) (hcast : (Cond.castable E name).before args s = true) (hcell : H[q]? = some ce) (hv : ce.vm = .none) (hcl : s.vm.findClass E = some ce.cls)
    (kk : W p l e R s m args below meth c H locs cells slots Q (F0 m x.handlerPc ls [.ref q])) : vx_W p l e R s m args below meth c H locs cells slots Q (F0 m pc ls rest) q := by
  intro T hT X
  have hpl : e.platform.magicAccessors = ({} : Platform).magicAccessors := by rw [X.admits.platform]
  obtain ⟨c3, c4, hc3, hc4, hasg⟩ := Cond.castable_spec hcast
  cases Option.some.inj (hc3.symm.trans hcl)
  obtain ⟨c5, hc5, hcl5⟩ := Cond.classLink_spec hown hlink e.platform hpl
  cases Option.some.inj (hc4.symm.trans hc5)
  obtain ⟨vm', X', st⟩ := X.thenCaughtThrough q (g := F0 m pc ls rest) rfl (Steps.refl _) (by rw [hT]; exact hcell) (by rw [hv]; rfl) (by obtain ⟨k9, h9, -⟩ := Vm.findClass_spec hcl; exact ⟨k9, h9⟩) pre x suf hsplit
    (fun z hz => by
      rcases hpass z hz with h | ⟨hz0, nm, hl1, hn1⟩
      · exact Or.inl h
      · obtain ⟨c6, hc6, hcl6⟩ := Cond.classLink_spec hown hl1 e.platform hpl
        obtain ⟨a8, b8, h1, h2, h3⟩ := hn1
        cases Option.some.inj (h1.symm.trans hcl)
        cases Option.some.inj (h2.symm.trans hc6)
        exact Or.inr ⟨hz0, _, hcl6, h3⟩) hx (Or.inr ⟨h0, c4, hcl5, hasg⟩)
  obtain ⟨t, a1, b1⟩ := kk (T.setVm vm') hT X'
  exact ⟨t, st.trans a1, b1⟩
end Rows
section Ends
variable {p : Program} {l : Launch} {e : Env} {R : Room} {s : State} {m : MethodId} {args : Array Value} {below : List Frame} {meth : Method} {c : Code} {H : Heap} {locs : List Loc} {cells slots : Nat} {Q : State → Prop}
variable {mc ms : Nat} {free : Addr → Prop} {A0 A1 : Nat → Prop} {H0 : Heap} {a : Array Value} {ls : Array Slot} {st0 rest : List Value}
variable {Qc : Array Value → State → Outcome → State → Prop} {XC : String → State → State → Prop}
/-- what a body that may throw owes at its end -/
def vx_MQ (below : List Frame) (Qc : Array Value → State → Outcome → State → Prop) (XC : String → State → State → Prop) (a : Array Value) (s : State) (mc ms : Nat) (free : Addr → Prop) : State → Prop := fun t =>
  ∃ o, t.status = .running ∧ Ended t below o ∧ vx_Q Qc XC mc ms free a s o t
theorem vx_ret {g : JFrame} {mc ms : Nat} (k : W p l e R s m args below meth c H locs cells slots (MQ below Qc args s mc ms free) g) : W p l e R s m args below meth c H locs cells slots (vx_MQ below Qc XC args s mc ms free) g := by
  intro T hT X
  obtain ⟨t, a1, o, b1, b2, b3, b4⟩ := k T hT X
  exact ⟨t, a1, o, b1, b2, Or.inl ⟨b3, b4⟩⟩
/-- not caught here: it goes on to the caller -/
theorem vx_widen {g : JFrame} {q : Addr} {k n : Nat} (h1 : cells ≤ k) (h2 : slots ≤ n) (kk : vx_W p l e R s m args below meth c H locs k n Q g q) : vx_W p l e R s m args below meth c H locs cells slots Q g q := fun T hT X => kk T hT (stand_widen X h1 h2)
theorem vx_out {pc : Nat} {E : String} {ce : Cell} {q : Addr} {mc ms : Nat} (hout : ∀ x ∈ c.exceptionTable.toList, covers x pc = false) (hlocks : meth.locks = false) (hcell : H[q]? = some ce) (hv : ce.vm = .none) (hcl : s.vm.findClass E = some ce.cls)
    (hx : ∀ t : State, t.heap = H → s.vm.Alike t.vm → XC E s t) (hf : ∀ z ∈ locs, free z.base) (hc : cells ≤ mc) (hs : slots ≤ ms) :
    vx_W p l e R s m args below meth c H locs cells slots (vx_MQ below Qc XC args s mc ms free) (F0 m pc ls rest) q := by
  intro T hT X
  obtain ⟨st1, hrun, hend, hW, hsm⟩ := X.leaveThrown q (g := F0 m pc ls rest) rfl rfl rfl hout hlocks
  have hcell9 : (T.setFrames (.throwing q :: below)).heap[q]? = some ce := by
    show T.heap[q]? = some ce
    rw [hT]; exact hcell
  exact ⟨_, st1, .threw q, hrun, hend, Or.inr ⟨q, rfl, E, ce, locs, hx _ hT hW.alike, hcell9, hv, hcl, hW, hsm.mono hc hs, hf⟩⟩
theorem vx_frame {U : State} {k n : Nat} (h : s.sameButNew ({ U with vm := s.vm } : State) locs k n) : s.heap.size ≤ U.heap.size ∧ ∀ q : Nat, q < s.heap.size → (∀ z ∈ locs, z.base ≠ q) → U.heap[q]? = s.heap[q]? := by
  obtain ⟨-, h2, -, -, -, h6⟩ := h
  refine ⟨h2, fun q hq hz => ?_⟩
  obtain ⟨c9, e1, e2, e3, e4⟩ := h6 q _ (Array.getElem?_eq_getElem hq)
  have hs : c9.slots = (s.heap[q]).slots := Array.ext_getElem? fun i => e4 i fun hm => hz _ hm rfl
  have h9 : c9 = s.heap[q] := by
    rw [hs] at e2
    exact e2
  have e5 : U.heap[q]? = some c9 := e1
  rw [e5, h9, Array.getElem?_eq_getElem hq]
/-- the words of a throw but the four that speak of the heap -/
def vx_no (w : Cond) : Bool := decide (w ≠ .isRef (.static Bundle.tN "UNASSIGNED_STACK" Bundle.steD)) && decide (w ≠ .isRef (.static Bundle.tN "SUPPRESSED_SENTINEL" Bundle.listD)) && decide (w ≠ .laysStatic Bundle.tN "UNASSIGNED_STACK" Bundle.steD) && decide (w ≠ .laysStatic Bundle.tN "SUPPRESSED_SENTINEL" Bundle.listD)
def vx_at0 (own : String) (ic : Nat) (X : String) (names : List String) : List Cond := (Bundle.ownAtoms0 own ic X names).filter vx_no
def vx_atS (own : String) (ic : Nat) (X : String) (names : List String) : List Cond := (Bundle.ownAtoms own ic X names).filter vx_no
/-- a word that the tables alone decide, or a good one -/
def vx_ot (w : Cond) : Bool := w.onTables || goodWord w
theorem vx_ot_at {args a' : Array Value} {s U : State} {w : Cond} (hW : s.WarmedH U.vm) (hvm : s.vm = U.vm) (hg : vx_ot w = true) (h : w.before args s = true) : w.before a' U = true := by
  simp only [vx_ot, Bool.or_eq_true] at hg
  rcases hg with hg | hg
  · exact va_tabs hg hvm h
  · exact word_at hW (good_of_word hg) h
/-- a list's words: the good ones out of the method's own list, the others by premises of their own -/
theorem vx_hat {args : Array Value} {s : State} {L B : List Cond} (h1 : ∀ w ∈ L.filter goodWord, w.before args s = true) (h2 : ∀ w ∈ L.filter (fun w => !goodWord w), w ∈ B) (h3 : ∀ w ∈ B, w.before args s = true) : ∀ w ∈ L, w.before args s = true := by
  intro w hw
  by_cases g : goodWord w = true
  · exact h1 w (List.mem_filter.mpr ⟨hw, g⟩)
  · refine h3 w (h2 w (List.mem_filter.mpr ⟨hw, ?_⟩))
    show (!goodWord w) = true
    cases hgw : goodWord w
    · rfl
    · exact absurd hgw g
theorem vx_c {args : Array Value} {s : State} {w : Cond} {B : List Cond} (h : w.before args s = true) (t : ∀ w ∈ B, w.before args s = true) : ∀ w' ∈ w :: B, w'.before args s = true := fun w' h' => (List.mem_cons.mp h').elim (fun e => by rw [e]; exact h) (t w')
theorem vx_n {args : Array Value} {s : State} : ∀ w ∈ ([] : List Cond), w.before args s = true := fun _ h => nomatch h
theorem vx_own {args : Array Value} {s : State} {L : List Cond} (h1 : ∀ w ∈ L.filter vx_no, w.before args s = true)
    (hU : (Cond.isRef (.static Bundle.tN "UNASSIGNED_STACK" Bundle.steD)).before args s = true) (hN : (Cond.isRef (.static Bundle.tN "SUPPRESSED_SENTINEL" Bundle.listD)).before args s = true)
    (lU : (Cond.laysStatic Bundle.tN "UNASSIGNED_STACK" Bundle.steD).before args s = true) (lN : (Cond.laysStatic Bundle.tN "SUPPRESSED_SENTINEL" Bundle.listD).before args s = true) : ∀ w ∈ L, w.before args s = true := by
  intro w hw
  by_cases e1 : w = .isRef (.static Bundle.tN "UNASSIGNED_STACK" Bundle.steD)
  · rw [e1]; exact hU
  · by_cases e2 : w = .isRef (.static Bundle.tN "SUPPRESSED_SENTINEL" Bundle.listD)
    · rw [e2]; exact hN
    · by_cases e3 : w = .laysStatic Bundle.tN "UNASSIGNED_STACK" Bundle.steD
      · rw [e3]; exact lU
      · by_cases e4 : w = .laysStatic Bundle.tN "SUPPRESSED_SENTINEL" Bundle.listD
        · rw [e4]; exact lN
        · exact h1 w (List.mem_filter.mpr ⟨hw, by unfold vx_no; rw [decide_eq_true e1, decide_eq_true e2, decide_eq_true e3, decide_eq_true e4]; rfl⟩)
/-- where a static field lies, its class's statics cell in H -/
def vx_L (C n d : String) (A : Nat → Prop) (U : State) (H : Heap) : Prop := ∃ (c : ClassId) (k : Class) (i : Nat) (f : Field) (a : Nat) (cell : Cell), U.vm.findClass C = some c ∧ U.fieldFound? C n d = some (c, k, i, f) ∧ f.isStatic = true ∧ k.statics = some a ∧ H[a]? = some cell ∧ cell.vm.isStatics = true ∧ cell.cls = c ∧ f.slot < cell.slots.size ∧ k.staticTypes[f.slot]? = some f.type ∧ ¬ A a
theorem vx_L.moved {C n d : String} {A : Nat → Prop} {u U : State} {H : Heap} (hvm : u.vm.Alike U.vm) (h : vx_L C n d A u H) : vx_L C n d A U H := by
  obtain ⟨c, k, i, f, a, cell, h1, h2, h3, h4, h5, h6, h7, h8, h9, h10⟩ := h
  obtain ⟨k', hi', he⟩ := State.fieldFound?_setVm hvm h2
  exact ⟨c, k', i, f, a, cell, by rw [hvm.findClass]; exact h1, hi', h3, by rw [he]; exact h4, h5, h6, h7, h8, by rw [he]; exact h9, h10⟩
theorem vx_L.kept {C n d : String} {A : Nat → Prop} {U : State} {H H1 : Heap} (h : vx_L C n d A U H) (hq : ∀ a : Nat, a < H.size → ¬ A a → H1[a]? = H[a]?) : vx_L C n d A U H1 := by
  obtain ⟨c, k, i, f, a, cell, h1, h2, h3, h4, h5, h6, h7, h8, h9, h10⟩ := h
  exact ⟨c, k, i, f, a, cell, h1, h2, h3, h4, by rw [hq a (Array.getElem?_eq_some_iff.mp h5).1 h10]; exact h5, h6, h7, h8, h9, h10⟩
theorem vx_L.narrow {C n d : String} {A B : Nat → Prop} {U : State} {H : Heap} (h : vx_L C n d A U H) (hAB : ∀ q, B q → A q) : vx_L C n d B U H := by
  obtain ⟨c, k, i, f, a, cell, h1, h2, h3, h4, h5, h6, h7, h8, h9, h10⟩ := h
  exact ⟨c, k, i, f, a, cell, h1, h2, h3, h4, h5, h6, h7, h8, h9, fun z => h10 (hAB _ z)⟩
theorem vx_L.word {C n d : String} {A : Nat → Prop} {s : State} {args : Array Value} (h : vx_L C n d A s s.heap) : (Cond.laysStatic C n d).before args s = true := by
  obtain ⟨c, k, i, f, a, cell, h1, h2, h3, h4, h5, h6, h7, h8, h9, -⟩ := h
  show (Cond.laysStatic C n d).holds args s none s [] = true
  exact Cond.laysStatic_of h1 h2 h3 h4 h5 h6 h7 h8 h9
/-- .. and what it holds: null or some reference -/
def vx_Zq (C n d : String) (A : Nat → Prop) (U : State) (H : Heap) : Prop := va_Zq C n d A U H ∧ vx_L C n d A U H
theorem vx_Zq.moved {C n d : String} {A : Nat → Prop} {u U : State} {H : Heap} (hvm : u.vm.Alike U.vm) (h : vx_Zq C n d A u H) : vx_Zq C n d A U H := ⟨va_Zq.moved hvm h.1, vx_L.moved hvm h.2⟩
theorem vx_Zq.kept {C n d : String} {A : Nat → Prop} {U : State} {H H1 : Heap} (h : vx_Zq C n d A U H) (hq : ∀ a : Nat, a < H.size → ¬ A a → H1[a]? = H[a]?) : vx_Zq C n d A U H1 := ⟨va_Zq.kept h.1 hq, vx_L.kept h.2 hq⟩
theorem vx_Zq.narrow {C n d : String} {A B : Nat → Prop} {U : State} {H : Heap} (h : vx_Zq C n d A U H) (hAB : ∀ q, B q → A q) : vx_Zq C n d B U H := ⟨va_Zq.narrow h.1 hAB, vx_L.narrow h.2 hAB⟩
theorem vx_Zqof {args : Array Value} {s : State} {C n d : String} {A : Nat → Prop} (hl : (Cond.laysStatic C n d).before args s = true) (hini : (Cond.initialized C).before args s = true) (h : (Cond.isRef (.static C n d)).before args s = true) (hA : ∀ a : Nat, a < s.heap.size → ¬ A a) : vx_Zq C n d A s s.heap := by
  refine ⟨va_Zqof hl hini h hA, ?_⟩
  obtain ⟨c, k, i, f, a, cell, h1, h2, h3, h4, h5, h6, h7, h8, h9⟩ := Cond.laysStatic_spec hl
  exact ⟨c, k, i, f, a, cell, h1, h2, h3, h4, h5, h6, h7, h8, h9, hA a (Array.getElem?_eq_some_iff.mp h5).1⟩
theorem vx_isRef {C n d : String} {v : Value} {A : Nat → Prop} {s : State} {args : Array Value} (h : va_Z C n d v A s s.heap) (hv : v.isRef = true) : (Cond.isRef (.static C n d)).before args s = true := by
  obtain ⟨cf, kf, fi, f, a, cell, h1, h2, h3, h4, h5, h6, h7, -⟩ := h
  have he : (Term.static C n d).eval args s none [] s = some v := by
    simp [Term.eval, State.fieldNamed?, h1, h2, h4, h5, h6, h7]
  simp only [Cond.before, Cond.holds, Cond.value, he]
  cases v <;> simp_all [Value.isRef]
theorem vx_isRefq {C n d : String} {A : Nat → Prop} {s : State} {args : Array Value} (h : va_Zq C n d A s s.heap) : (Cond.isRef (.static C n d)).before args s = true := by
  rcases h with h | ⟨t, h⟩
  · exact vx_isRef h rfl
  · exact vx_isRef h rfl
/-- the same frame, seen from here: as if the method were called anew in this heap -/
theorem vx_rebase {T : State} (X : Stand p l e R s m args below meth c T locs cells slots) {R' : Room} (hf : R'.frames ≤ R.frames) (hl : R'.locals ≤ R.locals) (hc : cells + R'.cells ≤ R.cells) (hs : slots + R'.slots ≤ R.slots) :
    Stand p l e R' ((T.setVm s.vm).setFrames (.invoking m args :: below)) m args below meth c T [] 0 0 := by
  have htop : (T.setVm s.vm).topJava?.isSome := X.here.top
  have hF : ((T.setVm s.vm).setFrames (.invoking m args :: below)).frames = .invoking m args :: below := State.frames_setFrames _ (State.cur_lt_of_top htop)
  obtain ⟨g₀, hg0⟩ := Option.isSome_iff_exists.mp htop
  obtain ⟨r, hr⟩ := State.topJava?_eq_some.mp hg0
  have hl9 : e.platform.stackLimits (T.setVm s.vm).me = e.platform.stackLimits s.me := X.limits
  have hb9 : (T.setVm s.vm).me.stackBytes = s.me.stackBytes := X.bytes
  refine ⟨X.admits, X.cas, X.clock, hF, ?_, X.hears, X.method, X.code, X.here, X.tail, X.warmed, ?_, ?_, ?_⟩
  · have h := X.room
    have hU : ((T.setVm s.vm).setFrames (.invoking m args :: below)).localsInUse = s.localsInUse := by
      rw [State.localsInUse_invoking hF (meth := meth) (c := c) X.method X.code, State.localsInUse_invoking X.frames X.method X.code]
    simp only [State.hasRoom, Bool.and_eq_true, decide_eq_true_eq] at h ⊢
    obtain ⟨⟨⟨⟨h1, h2, h3, h4, h5, h6⟩, h7⟩, h8⟩, h9⟩ := h
    rw [X.frames, List.length_cons] at h2 h3
    have q1 := X.heapSize
    have q2 := X.used
    simp only [hF, hU, List.length_cons, State.stackLimits_setFrames, State.stackBytes_setFrames, hl9, hb9]
    refine ⟨⟨⟨⟨by omega, by omega, by omega, by omega, by omega, h6⟩, ?_⟩, ?_⟩, X.book⟩
    · show T.heap.size + R'.cells ≤ e.platform.maxCells
      omega
    · show T.slotsUsed + R'.slots ≤ e.platform.maxSlots
      omega
  · rw [State.stackLimits_setFrames]; rfl
  · rw [State.stackBytes_setFrames]; rfl
  · refine ⟨?_, Nat.le_refl _, Nat.le_refl _, ?_, ?_, fun a c9 h9 => ⟨c9, h9, rfl, rfl, fun _ _ => rfl⟩⟩
    · obtain ⟨t, ht, -⟩ := State.frames_cons hr
      show T.setVm s.vm = { ((T.setVm s.vm).setFrames (.invoking m args :: below)).setFrames (T.setVm s.vm).frames with heap := T.heap, slotsUsed := T.slotsUsed }
      rw [State.setFrames_setFrames, State.setFrames_self ht]
      rfl
    · show T.slotsUsed = T.slotsUsed + ((T.heap.toList.drop T.heap.size).map (·.slots.size)).sum
      rw [List.drop_eq_nil_of_le (Nat.le_of_eq Array.length_toList)]
      rfl
    · show ((T.heap.toList.drop T.heap.size).map (·.slots.size)).sum ≤ 0
      rw [List.drop_eq_nil_of_le (Nat.le_of_eq Array.length_toList)]
      exact Nat.le_refl _
/-- 'throw new E()': new; dup; invokespecial; athrow -/
theorem vx_throw0 {cc : ByteArray} {pc : Nat} (hexec : p.tables.exec = Jvm.exec) (hb : c.code = cc) (hl : l.stackTraces = false) {own cls : String} {names : List String} {ik ic mc ms : Nat} {A : Nat → Prop}
    (hown : s.vm.findClass own = some m.cls) (hcls : Bundle.fit cls = true) (hnames : ∀ n ∈ names, Bundle.fit n = true)
    (hk : (Cond.classLink own ik cls).before args s = true) (hini : (Cond.initialized cls).before args s = true) (hat : ∀ w ∈ vx_at0 own ic cls names, w.before args s = true)
    (hgood : ∀ w ∈ Cond.classLink own ik cls :: Cond.initialized cls :: vx_at0 own ic cls names, vx_ot w = true)
    (hU : vx_Zq Bundle.tN "UNASSIGNED_STACK" Bundle.steD A s s.heap) (hN : vx_Zq Bundle.tN "SUPPRESSED_SENTINEL" Bundle.listD A s s.heap) (hS : va_S A s.heap H locs) (hsize : ls.size = c.maxLocals)
    (d0 : decode cc pc = .ok (.new ik, 3)) (d3 : decode cc (pc + 3) = .ok (.dup, 1)) (d4 : decode cc (pc + 4) = .ok (.invokespecial ic, 3)) (d7 : decode cc (pc + 7) = .ok (.athrow, 1))
    (hout : ∀ x ∈ c.exceptionTable.toList, covers x (pc + 7) = false)
    (hRframes : names.length + 3 < R.frames) (hRlocals : (rest.map fun v => v.category).sum + (13 * (names.length + 1) + 42) ≤ R.locals) (hRcells : cells + 1 ≤ R.cells) (hRslots : slots + 6 ≤ R.slots) (hlocks : meth.locks = false)
    (hx : ∀ t : State, s.vm.Alike t.vm → H.size ≤ t.heap.size → (∀ q : Nat, q < H.size → t.heap[q]? = H[q]?) → XC cls s t)
    (hf : ∀ z ∈ locs, free z.base) (hc : cells + 1 ≤ mc) (hs : slots + 6 ≤ ms) :
    W p l e R s m args below meth c H locs cells slots (vx_MQ below Qc XC args s mc ms free) (F0 m pc ls rest) := by
  intro T hT X
  have htr : e.platform.stackTraces = false := (show e.platform.stackTraces = l.stackTraces by rw [X.admits.platform]).trans hl
  have Y := vx_rebase X (R' := { frames := R.frames, locals := R.locals, cells := 1, slots := 6 }) (Nat.le_refl _) (Nat.le_refl _) hRcells hRslots
  obtain ⟨s', hA⟩ : ∃ z, z = (T.setVm s.vm).setFrames (.invoking m args :: below) := ⟨_, rfl⟩
  rw [← hA] at Y
  have hvm : s'.vm = s.vm := by rw [hA]; rfl
  have hhp : s'.heap = H := by rw [hA]; exact hT
  have hW0 : s.WarmedH s'.vm := by rw [hvm]; exact State.WarmedH.refl s
  have hat' : ∀ w ∈ vx_at0 own ic cls names, w.before args s' = true := fun w hw => vx_ot_at hW0 hvm.symm (hgood w (List.mem_cons_of_mem _ (List.mem_cons_of_mem _ hw))) (hat w hw)
  have hk' : (Cond.classLink own ik cls).before args s' = true := vx_ot_at hW0 hvm.symm (hgood _ List.mem_cons_self) hk
  have hini' : (Cond.initialized cls).before args s' = true := vx_ot_at hW0 hvm.symm (hgood _ (List.mem_cons_of_mem _ List.mem_cons_self)) hini
  have hU' : vx_Zq Bundle.tN "UNASSIGNED_STACK" Bundle.steD A s' s'.heap := by rw [hhp]; exact vx_Zq.moved hW0.alike (hU.kept hS.2.1)
  have hN' : vx_Zq Bundle.tN "SUPPRESSED_SENTINEL" Bundle.listD A s' s'.heap := by rw [hhp]; exact vx_Zq.moved hW0.alike (hN.kept hS.2.1)
  have h : ∀ w ∈ Bundle.ownAtoms0 own ic cls names, w.before args s' = true := vx_own hat' (vx_isRefq hU'.1) (vx_isRefq hN'.1) hU'.2.word hN'.2.word
  have hown' : s'.vm.findClass own = some m.cls := by rw [hvm]; exact hown
  have hins : (Cond.instantiable cls 6).before args s' = true := h _ (by simp [Bundle.ownAtoms0])
  obtain ⟨vm₁, cX, kX, hfX, hkX, -, -, X₁, st1⟩ := Y.newCold hexec (own := own) (C := cls) (index := ik) (n := 6) hown' hk' hins hini'
    (g := F0 m pc ls rest) rfl (by rw [hb]; exact d0) (Nat.le_refl _) (Nat.le_refl _)
  generalize hT1 : (T.setVm vm₁).pushCell { cls := cX, slots := kX.instanceTypes.map defaultValue, vm := .none } = T1 at X₁ st1
  have hcat : (Value.ref T.heap.size).category = 1 := rfl
  have hcellA : T1.heap[T.heap.size]? = some (freshCell cX kX) := by rw [← hT1]; exact State.heap_pushCell_size _ _
  have d3' : decode c.code (pc + 3) = .ok (.dup, 1) := by rw [hb]; exact d3
  obtain ⟨U, hsteps, hrun, hend, hW, hsame, ce, hce, hO⟩ := X₁.ctorThrow0 hexec htr (own := own) (cls := cls) (names := names) (ic := ic) hown' hcls hnames h (fun x hx => nomatch hx) hfX hkX hcellA (by rw [hhp, hT]; exact Nat.le_refl _)
    (g := { method := m, pc := pc + 4, locals := ls, stack := .ref T.heap.size :: .ref T.heap.size :: rest, locked := none }) rfl hsize rfl rfl (rest := rest) rfl
    (by rw [hb]; exact d4) (by rw [hb]; exact d7) hout hRframes (by simp only [List.map_cons, List.sum_cons, hcat]; omega) hlocks
  obtain ⟨f1, f2⟩ := vx_frame hsame
  rw [hhp] at f1 f2
  have hWs : s.WarmedH U.vm := State.WarmedH.trans hW0 hW
  have hcl : s.vm.findClass cls = some ce.cls := by
    have h9 := hO.cls
    rw [hvm] at h9
    exact h9
  have hall : s.sameButNew ({ U with vm := s.vm } : State) locs mc ms := by
    subst hA
    obtain ⟨e1, e2⟩ := hsame
    rw [State.setFrames_setFrames] at e1
    have h2 : (T.setVm s.vm).sameButNew ({ U with vm := s.vm } : State) [] (0 + 1) (0 + 6) := ⟨e1, e2⟩
    have h3 := X.same.trans h2
    rw [List.append_nil] at h3
    exact h3.mono hc hs
  refine ⟨U, ?_, .threw T.heap.size, hrun, hend, Or.inr ⟨T.heap.size, rfl, cls, ce, locs, hx U hWs.alike f1 (fun q hq => f2 q hq (fun z hz => nomatch hz)), hce, hO.vm, hcl, hWs, hall, hf⟩⟩
  refine st1 _ ?_
  show Steps p.tables e below (T1.setTop { method := m, pc := pc + 3, locals := ls, stack := .ref T.heap.size :: rest, locked := none }) _
  jvm_step X₁.here [X₁.here.top, hexec, d3', Value.category]
  exact hsteps
/-- 'throw new E("text")': new; dup; ldc; invokespecial; athrow -/
theorem vx_throwS {cc : ByteArray} {pc : Nat} (hexec : p.tables.exec = Jvm.exec) (hb : c.code = cc) (hl : l.stackTraces = false) {own cls text : String} {names : List String} {ik is ic mc ms sa : Nat} {A : Nat → Prop}
    (hown : s.vm.findClass own = some m.cls) (hcls : Bundle.fit cls = true) (hnames : ∀ n ∈ names, Bundle.fit n = true)
    (hk : (Cond.classLink own ik cls).before args s = true) (hini : (Cond.initialized cls).before args s = true) (hstr : vk_R own is text sa s) (hat : ∀ w ∈ vx_atS own ic cls names, w.before args s = true)
    (hgood : ∀ w ∈ Cond.classLink own ik cls :: Cond.initialized cls :: vx_atS own ic cls names, vx_ot w = true)
    (hU : vx_Zq Bundle.tN "UNASSIGNED_STACK" Bundle.steD A s s.heap) (hN : vx_Zq Bundle.tN "SUPPRESSED_SENTINEL" Bundle.listD A s s.heap) (hS : va_S A s.heap H locs) (hsize : ls.size = c.maxLocals)
    (d0 : decode cc pc = .ok (.new ik, 3)) (d3 : decode cc (pc + 3) = .ok (.dup, 1)) (d4 : decode cc (pc + 4) = .ok (.ldc is, 2)) (d6 : decode cc (pc + 6) = .ok (.invokespecial ic, 3)) (d9 : decode cc (pc + 9) = .ok (.athrow, 1))
    (hout : ∀ x ∈ c.exceptionTable.toList, covers x (pc + 9) = false)
    (hRframes : names.length + 3 < R.frames) (hRlocals : (rest.map fun v => v.category).sum + (13 * (names.length + 1) + 43) ≤ R.locals) (hRcells : cells + 1 ≤ R.cells) (hRslots : slots + 6 ≤ R.slots) (hlocks : meth.locks = false)
    (hx : ∀ t : State, s.vm.Alike t.vm → H.size ≤ t.heap.size → (∀ q : Nat, q < H.size → t.heap[q]? = H[q]?) → XC cls s t)
    (hf : ∀ z ∈ locs, free z.base) (hc : cells + 1 ≤ mc) (hs : slots + 6 ≤ ms) :
    W p l e R s m args below meth c H locs cells slots (vx_MQ below Qc XC args s mc ms free) (F0 m pc ls rest) := by
  intro T hT X
  have htr : e.platform.stackTraces = false := (show e.platform.stackTraces = l.stackTraces by rw [X.admits.platform]).trans hl
  have Y := vx_rebase X (R' := { frames := R.frames, locals := R.locals, cells := 1, slots := 6 }) (Nat.le_refl _) (Nat.le_refl _) hRcells hRslots
  obtain ⟨s', hA⟩ : ∃ z, z = (T.setVm s.vm).setFrames (.invoking m args :: below) := ⟨_, rfl⟩
  rw [← hA] at Y
  have hvm : s'.vm = s.vm := by rw [hA]; rfl
  have hhp : s'.heap = H := by rw [hA]; exact hT
  have hW0 : s.WarmedH s'.vm := by rw [hvm]; exact State.WarmedH.refl s
  have hat' : ∀ w ∈ vx_atS own ic cls names, w.before args s' = true := fun w hw => vx_ot_at hW0 hvm.symm (hgood w (List.mem_cons_of_mem _ (List.mem_cons_of_mem _ hw))) (hat w hw)
  have hk' : (Cond.classLink own ik cls).before args s' = true := vx_ot_at hW0 hvm.symm (hgood _ List.mem_cons_self) hk
  have hini' : (Cond.initialized cls).before args s' = true := vx_ot_at hW0 hvm.symm (hgood _ (List.mem_cons_of_mem _ List.mem_cons_self)) hini
  have hU' : vx_Zq Bundle.tN "UNASSIGNED_STACK" Bundle.steD A s' s'.heap := by rw [hhp]; exact vx_Zq.moved hW0.alike (hU.kept hS.2.1)
  have hN' : vx_Zq Bundle.tN "SUPPRESSED_SENTINEL" Bundle.listD A s' s'.heap := by rw [hhp]; exact vx_Zq.moved hW0.alike (hN.kept hS.2.1)
  have h : ∀ w ∈ Bundle.ownAtoms own ic cls names, w.before args s' = true := vx_own hat' (vx_isRefq hU'.1) (vx_isRefq hN'.1) hU'.2.word hN'.2.word
  have hown' : s'.vm.findClass own = some m.cls := by rw [hvm]; exact hown
  have hins : (Cond.instantiable cls 6).before args s' = true := h _ (by simp [Bundle.ownAtoms])
  obtain ⟨vm₁, cX, kX, hfX, hkX, -, -, X₁, st1⟩ := Y.newCold hexec (own := own) (C := cls) (index := ik) (n := 6) hown' hk' hins hini'
    (g := F0 m pc ls rest) rfl (by rw [hb]; exact d0) (Nat.le_refl _) (Nat.le_refl _)
  generalize hT1 : (T.setVm vm₁).pushCell { cls := cX, slots := kX.instanceTypes.map defaultValue, vm := .none } = T1 at X₁ st1
  have hcat : (Value.ref T.heap.size).category = 1 := rfl
  have hcellA : T1.heap[T.heap.size]? = some (freshCell cX kX) := by rw [← hT1]; exact State.heap_pushCell_size _ _
  have d3' : decode c.code (pc + 3) = .ok (.dup, 1) := by rw [hb]; exact d3
  have d4' : decode c.code (pc + 4) = .ok (.ldc is, 2) := by rw [hb]; exact d4
  have hstr' : vk_R own is text sa s' := vk_R.warm hW0 hstr
  obtain ⟨U, hsteps, hrun, hend, hW, hsame, ce, hce, hO⟩ := X₁.ctorThrowS hexec htr (own := own) (cls := cls) (names := names) (ic := ic) hown' hcls hnames h (fun x hx => nomatch hx) hfX hkX hcellA (by rw [hhp, hT]; exact Nat.le_refl _) (msg := .ref sa) rfl
    (g := { method := m, pc := pc + 6, locals := ls, stack := .ref sa :: .ref T.heap.size :: .ref T.heap.size :: rest, locked := none }) rfl hsize rfl rfl (rest := rest) rfl
    (by rw [hb]; exact d6) (by rw [hb]; exact d9) hout hRframes (by simp only [List.map_cons, List.sum_cons, hcat]; omega) hlocks
  obtain ⟨f1, f2⟩ := vx_frame hsame
  rw [hhp] at f1 f2
  have hWs : s.WarmedH U.vm := State.WarmedH.trans hW0 hW
  have hcl : s.vm.findClass cls = some ce.cls := by
    have h9 := hO.cls
    rw [hvm] at h9
    exact h9
  have hall : s.sameButNew ({ U with vm := s.vm } : State) locs mc ms := by
    subst hA
    obtain ⟨e1, e2⟩ := hsame
    rw [State.setFrames_setFrames] at e1
    have h2 : (T.setVm s.vm).sameButNew ({ U with vm := s.vm } : State) [] (0 + 1) (0 + 6) := ⟨e1, e2⟩
    have h3 := X.same.trans h2
    rw [List.append_nil] at h3
    exact h3.mono hc hs
  refine ⟨U, ?_, .threw T.heap.size, hrun, hend, Or.inr ⟨T.heap.size, rfl, cls, ce, locs, hx U hWs.alike f1 (fun q hq => f2 q hq (fun z hz => nomatch hz)), hce, hO.vm, hcl, hWs, hall, hf⟩⟩
  refine st1 _ ?_
  show Steps p.tables e below (T1.setTop { method := m, pc := pc + 3, locals := ls, stack := .ref T.heap.size :: rest, locked := none }) _
  jvm_step X₁.here [X₁.here.top, hexec, d3', Value.category]
  exact X₁.ldcString hexec (own := own) (text := text) (index := is) (a := sa) hown' hstr'.1 hstr'.2
    (g := { method := m, pc := pc + 4, locals := ls, stack := .ref T.heap.size :: .ref T.heap.size :: rest, locked := none }) rfl d4' _ hsteps
/-- 'throw new E("text")', the text by a wide index -/
theorem vx_throwSW {cc : ByteArray} {pc : Nat} (hexec : p.tables.exec = Jvm.exec) (hb : c.code = cc) (hl : l.stackTraces = false) {own cls text : String} {names : List String} {ik is ic mc ms sa : Nat} {A : Nat → Prop}
    (hown : s.vm.findClass own = some m.cls) (hcls : Bundle.fit cls = true) (hnames : ∀ n ∈ names, Bundle.fit n = true)
    (hk : (Cond.classLink own ik cls).before args s = true) (hini : (Cond.initialized cls).before args s = true) (hstr : vk_R own is text sa s) (hat : ∀ w ∈ vx_atS own ic cls names, w.before args s = true)
    (hgood : ∀ w ∈ Cond.classLink own ik cls :: Cond.initialized cls :: vx_atS own ic cls names, vx_ot w = true)
    (hU : vx_Zq Bundle.tN "UNASSIGNED_STACK" Bundle.steD A s s.heap) (hN : vx_Zq Bundle.tN "SUPPRESSED_SENTINEL" Bundle.listD A s s.heap) (hS : va_S A s.heap H locs) (hsize : ls.size = c.maxLocals)
    (d0 : decode cc pc = .ok (.new ik, 3)) (d3 : decode cc (pc + 3) = .ok (.dup, 1)) (d4 : decode cc (pc + 4) = .ok (.ldc_w is, 3)) (d7 : decode cc (pc + 7) = .ok (.invokespecial ic, 3)) (d10 : decode cc (pc + 10) = .ok (.athrow, 1))
    (hout : ∀ x ∈ c.exceptionTable.toList, covers x (pc + 10) = false)
    (hRframes : names.length + 3 < R.frames) (hRlocals : (rest.map fun v => v.category).sum + (13 * (names.length + 1) + 43) ≤ R.locals) (hRcells : cells + 1 ≤ R.cells) (hRslots : slots + 6 ≤ R.slots) (hlocks : meth.locks = false)
    (hx : ∀ t : State, s.vm.Alike t.vm → H.size ≤ t.heap.size → (∀ q : Nat, q < H.size → t.heap[q]? = H[q]?) → XC cls s t)
    (hf : ∀ z ∈ locs, free z.base) (hc : cells + 1 ≤ mc) (hs : slots + 6 ≤ ms) :
    W p l e R s m args below meth c H locs cells slots (vx_MQ below Qc XC args s mc ms free) (F0 m pc ls rest) := by
  intro T hT X
  have htr : e.platform.stackTraces = false := (show e.platform.stackTraces = l.stackTraces by rw [X.admits.platform]).trans hl
  have Y := vx_rebase X (R' := { frames := R.frames, locals := R.locals, cells := 1, slots := 6 }) (Nat.le_refl _) (Nat.le_refl _) hRcells hRslots
  obtain ⟨s', hA⟩ : ∃ z, z = (T.setVm s.vm).setFrames (.invoking m args :: below) := ⟨_, rfl⟩
  rw [← hA] at Y
  have hvm : s'.vm = s.vm := by rw [hA]; rfl
  have hhp : s'.heap = H := by rw [hA]; exact hT
  have hW0 : s.WarmedH s'.vm := by rw [hvm]; exact State.WarmedH.refl s
  have hat' : ∀ w ∈ vx_atS own ic cls names, w.before args s' = true := fun w hw => vx_ot_at hW0 hvm.symm (hgood w (List.mem_cons_of_mem _ (List.mem_cons_of_mem _ hw))) (hat w hw)
  have hk' : (Cond.classLink own ik cls).before args s' = true := vx_ot_at hW0 hvm.symm (hgood _ List.mem_cons_self) hk
  have hini' : (Cond.initialized cls).before args s' = true := vx_ot_at hW0 hvm.symm (hgood _ (List.mem_cons_of_mem _ List.mem_cons_self)) hini
  have hU' : vx_Zq Bundle.tN "UNASSIGNED_STACK" Bundle.steD A s' s'.heap := by rw [hhp]; exact vx_Zq.moved hW0.alike (hU.kept hS.2.1)
  have hN' : vx_Zq Bundle.tN "SUPPRESSED_SENTINEL" Bundle.listD A s' s'.heap := by rw [hhp]; exact vx_Zq.moved hW0.alike (hN.kept hS.2.1)
  have h : ∀ w ∈ Bundle.ownAtoms own ic cls names, w.before args s' = true := vx_own hat' (vx_isRefq hU'.1) (vx_isRefq hN'.1) hU'.2.word hN'.2.word
  have hown' : s'.vm.findClass own = some m.cls := by rw [hvm]; exact hown
  have hins : (Cond.instantiable cls 6).before args s' = true := h _ (by simp [Bundle.ownAtoms])
  obtain ⟨vm₁, cX, kX, hfX, hkX, -, -, X₁, st1⟩ := Y.newCold hexec (own := own) (C := cls) (index := ik) (n := 6) hown' hk' hins hini'
    (g := F0 m pc ls rest) rfl (by rw [hb]; exact d0) (Nat.le_refl _) (Nat.le_refl _)
  generalize hT1 : (T.setVm vm₁).pushCell { cls := cX, slots := kX.instanceTypes.map defaultValue, vm := .none } = T1 at X₁ st1
  have hcat : (Value.ref T.heap.size).category = 1 := rfl
  have hcellA : T1.heap[T.heap.size]? = some (freshCell cX kX) := by rw [← hT1]; exact State.heap_pushCell_size _ _
  have d3' : decode c.code (pc + 3) = .ok (.dup, 1) := by rw [hb]; exact d3
  have d4' : decode c.code (pc + 4) = .ok (.ldc_w is, 3) := by rw [hb]; exact d4
  have hstr' : vk_R own is text sa s' := vk_R.warm hW0 hstr
  obtain ⟨U, hsteps, hrun, hend, hW, hsame, ce, hce, hO⟩ := X₁.ctorThrowS hexec htr (own := own) (cls := cls) (names := names) (ic := ic) hown' hcls hnames h (fun x hx => nomatch hx) hfX hkX hcellA (by rw [hhp, hT]; exact Nat.le_refl _) (msg := .ref sa) rfl
    (g := { method := m, pc := pc + 7, locals := ls, stack := .ref sa :: .ref T.heap.size :: .ref T.heap.size :: rest, locked := none }) rfl hsize rfl rfl (rest := rest) rfl
    (by rw [hb]; exact d7) (by rw [hb]; exact d10) hout hRframes (by simp only [List.map_cons, List.sum_cons, hcat]; omega) hlocks
  obtain ⟨f1, f2⟩ := vx_frame hsame
  rw [hhp] at f1 f2
  have hWs : s.WarmedH U.vm := State.WarmedH.trans hW0 hW
  have hcl : s.vm.findClass cls = some ce.cls := by
    have h9 := hO.cls
    rw [hvm] at h9
    exact h9
  have hall : s.sameButNew ({ U with vm := s.vm } : State) locs mc ms := by
    subst hA
    obtain ⟨e1, e2⟩ := hsame
    rw [State.setFrames_setFrames] at e1
    have h2 : (T.setVm s.vm).sameButNew ({ U with vm := s.vm } : State) [] (0 + 1) (0 + 6) := ⟨e1, e2⟩
    have h3 := X.same.trans h2
    rw [List.append_nil] at h3
    exact h3.mono hc hs
  refine ⟨U, ?_, .threw T.heap.size, hrun, hend, Or.inr ⟨T.heap.size, rfl, cls, ce, locs, hx U hWs.alike f1 (fun q hq => f2 q hq (fun z hz => nomatch hz)), hce, hO.vm, hcl, hWs, hall, hf⟩⟩
  refine st1 _ ?_
  show Steps p.tables e below (T1.setTop { method := m, pc := pc + 3, locals := ls, stack := .ref T.heap.size :: rest, locked := none }) _
  jvm_step X₁.here [X₁.here.top, hexec, d3', Value.category]
  exact X₁.ldcStringW hexec (own := own) (text := text) (index := is) (a := sa) hown' hstr'.1 hstr'.2
    (g := { method := m, pc := pc + 4, locals := ls, stack := .ref T.heap.size :: .ref T.heap.size :: rest, locked := none }) rfl d4' _ hsteps
end Ends
section Bodies
variable {l : Launch}
theorem vx_ofW {y : MethodName} {ws ws' : List Cond} {rm : Room} {Pc : Array Value → State → Prop} {Qc : Array Value → State → Outcome → State → Prop} {XC : String → State → State → Prop} {mc ms : Nat} {free : Addr → Prop} {cc : ByteArray} {maxL : Nat} {ret : Option FieldType}
    (hy : plainName y.cls = true) (hw : ws = Cond.code y cc maxL ret :: ws')
    (body : ∀ p e s m args below meth c s₁, BodyLoose p l y (headSpec ws rm) cc maxL ret e s m args below meth c s₁ → c.maxLocals = maxL → (∀ x ∈ c.exceptionTable.toList, False) → Pc args s →
      W p l e (headSpec ws rm).room s m args below meth c s.heap [] 0 0 (vx_MQ below Qc XC args s mc ms free) (entryFrame m args maxL)) : vx_Met l y ws rm Pc Qc XC mc ms free := by
  refine MetFree.of_bodyS (code := cc) (maxLocals := maxL) (ret := ret) hy ?_ ?_
  · intro args s m h hn
    obtain ⟨meth, c, h1, h2, h3, h4, h5, h6, -, -⟩ := Cond.code_spec hn (atoms_spec (ws := ws) h _ (by rw [hw]; exact List.mem_cons_self))
    exact ⟨meth, c, h1, h2, h3, h4, h5, h6⟩
  · intro p e s m args below meth c s₁ B hml hP _
    have hh0 : s₁.heap = s.heap := by rw [B.state]; rfl
    have ht : ∀ x ∈ c.exceptionTable.toList, False := by
      obtain ⟨meth9, c9, h1, h2, -, -, -, -, h7, -⟩ := Cond.code_spec B.named (atoms_spec (ws := ws) B.pre _ (by rw [hw]; exact List.mem_cons_self))
      cases Option.some.inj (h1.symm.trans B.method)
      cases Option.some.inj (h2.symm.trans (Stand.of_body B).code)
      intro x hx
      rw [Array.isEmpty_iff.mp h7] at hx
      cases hx
    obtain ⟨t, a1, o, b1, b2, b3⟩ := body p e s m args below meth c s₁ B hml ht hP s₁ hh0 (Stand.of_body B)
    exact ⟨t, o, a1, b1, b2, b3⟩
/-- the table of a body with handlers -/
theorem vx_table {p : Program} {x y : MethodName} {S : Spec} {cc bytes : ByteArray} {maxL maxL' : Nat} {ret ret' : Option FieldType} {e : Env} {s s₁ : State} {m : MethodId} {args : Array Value} {below : List Frame} {meth : Method} {c : Code} {hh : List (Nat × Nat × Nat × Nat)}
    (B : BodyLoose p l y S cc maxL ret e s m args below meth c s₁) (h : (Cond.codeWith y bytes maxL' ret' hh).before args s = true) : c.exceptionTable.toList = tableOf hh := by
  obtain ⟨m9, meth9, c9, hn9, h1, h2, -, -, h6, -⟩ := Cond.codeWith_spec h
  cases Option.some.inj (hn9.symm.trans B.named)
  cases Option.some.inj (h1.symm.trans B.method)
  cases Option.some.inj (h2.symm.trans (Stand.of_body B).code)
  rw [← h6, table_eq]
end Bodies
end VXA
/-! ===== END ===== -/
/-! ===== BEGIN a static call of a method with an exception table ===== -/
section VXS
variable {p : Program} {l : Launch} {e : Env} {R : Room} {s : State} {m : MethodId} {args : Array Value} {below : List Frame} {meth : Method} {c : Code} {T : State} {H : Heap} {locs : List Loc} {cells slots : Nat}
abbrev vx_CSW (R : Room) (s : State) (args : Array Value) (own : String) (index : Nat) (y : MethodName) (bytes : ByteArray) (maxL : Nat) (ret : Option FieldType) (hh : List (Nat × Nat × Nat × Nat)) (ws : List Cond) (rm : Room) (mc ms n : Nat) : Prop :=
  (rm.cells = mc ∧ rm.slots = ms ∧ rm.frames + 1 ≤ R.frames ∧ 8 + (maxL + 11) + rm.locals ≤ R.locals ∧ (∀ w ∈ ws, ∀ (a' : Array Value) (U : State), s.WarmedH U.vm → w.before a' U = true) ∧ Cond.codeWith y bytes maxL ret hh ∈ ws) ∧
  (Cond.codeWith y bytes maxL ret hh).before args s = true ∧ (Cond.initialized y.cls).before args s = true ∧ (y.cls ≠ "java/lang/invoke/MethodHandle" ∧ y.cls ≠ "java/lang/invoke/VarHandle") ∧
  (∀ sig, parseMethodDescriptor y.desc = some sig → n = sig.parameters.length) ∧ (Cond.methodLink own index y).before args s = true ∧ (Cond.static y).before args s = true
theorem vx_cwSW {own : String} {index maxL mc ms : Nat} {y : MethodName} {bytes : ByteArray} {ret : Option FieldType} {hh : List (Nat × Nat × Nat × Nat)} {Ts ws ws' : List Cond} {rm : Room} (n : Nat) (ht : ∀ w ∈ Ts, w.before args s = true) (hT : GoodIn Ts (va_wsS own index y ws)) (hw : ws = Cond.codeWith y bytes maxL ret hh :: ws') (hrc : rm.cells = mc) (hrs : rm.slots = ms)
    (hd : y.cls ≠ "java/lang/invoke/MethodHandle" ∧ y.cls ≠ "java/lang/invoke/VarHandle" ∧ (parseMethodDescriptor y.desc).map (fun d => d.parameters.length) = some n) (hR : rm.frames + 1 ≤ R.frames ∧ 8 + (maxL + 11) + rm.locals ≤ R.locals) :
    vx_CSW R s args own index y bytes maxL ret hh ws rm mc ms n := by
  have ok : ∀ w ∈ va_wsS own index y ws, w.before args s = true := fun w h => ht w (hT w h).1
  have hG : GoodIn Ts ws := fun w h => hT w (by unfold va_wsS; exact List.mem_append_right _ h)
  have hc : Cond.codeWith y bytes maxL ret hh ∈ ws := by rw [hw]; exact List.mem_cons_self
  refine ⟨⟨hrc, hrs, hR.1, hR.2, pay_in ht hG, hc⟩, ht _ (hG _ hc).1, ok _ (by simp [va_wsS]), ⟨hd.1, hd.2.1⟩, fun sig h => ?_, ok _ (by simp [va_wsS]), ok _ (by simp [va_wsS])⟩
  have h2 := hd.2.2
  rw [h] at h2
  exact (Option.some.inj h2).symm
theorem vx_callSW (X : Stand p l e R s m args below meth c T locs cells slots) (hexec : p.tables.exec = Jvm.exec) {own : String} {index : Nat} {y : MethodName} {bytes : ByteArray} {maxL : Nat} {ret : Option FieldType} {hh : List (Nat × Nat × Nat × Nat)}
    (hown : s.vm.findClass own = some m.cls) (hlink : (Cond.methodLink own index y).before args s = true) (hstat : (Cond.static y).before args s = true) (hinit : (Cond.initialized y.cls).before args s = true)
    (hcode : (Cond.codeWith y bytes maxL ret hh).before args s = true) (hy : y.cls ≠ "java/lang/invoke/MethodHandle" ∧ y.cls ≠ "java/lang/invoke/VarHandle")
    {W9 : Nat} {Pre : Pt → Array Value → Prop} {Post : Pt → Array Value → Option Value → Pt → Prop} (hK : Back l R p e below s args y 3 W9 Pre Post)
    {g : JFrame} (hg : g.method = m) (hsize : g.locals.size = c.maxLocals) {argsL rest : List Value} (hlen : ∀ sig, parseMethodDescriptor y.desc = some sig → argsL.length = sig.parameters.length)
    (hstack : g.stack = argsL.reverse ++ rest) (hW : 2 * g.monitorRoom + (rest.map fun v => v.category).sum ≤ W9) (hdg : decode c.code g.pc = .ok (.invokestatic index, 3))
    (hpre : ∀ vm₁, s.WarmedH vm₁ → Pre ⟨T.setVm vm₁, locs, cells, slots⟩ argsL.toArray) :
    ∃ (v : Option Value) (vm₁ : Vm) (B : Pt), s.WarmedH vm₁ ∧ Stand p l e R s m args below meth c B.U B.locs B.cells B.slots ∧ Post ⟨T.setVm vm₁, locs, cells, slots⟩ argsL.toArray v B ∧
      ∀ target, Steps p.tables e below (B.U.setTop { g with pc := g.pc + 3, stack := v.toList ++ rest }) target → Steps p.tables e below (T.setTop g) target := by
  obtain ⟨mk, methM, cM, hnamed, hmethM, -, -, -, -, -, -, hsigM⟩ := Cond.codeWith_spec hcode
  have hstatic : methM.isStatic = true := Cond.static_spec hnamed hmethM hstat
  obtain ⟨kP, hkP, -⟩ := className_of_methodNamed hnamed
  have hinitP : kP.init = .initialized := Cond.initialized_spec (findClass_of_methodNamed hnamed) hkP hinit
  obtain ⟨vm₁, X₁, hstep₁⟩ := X.invokestatic hexec hown hlink hnamed hmethM hstatic hkP hinitP hy (g := g) hg (argsL := argsL) (rest := rest) (hlen _ hsigM) hstack hdg
  obtain ⟨v, B, X', hpost, hsteps⟩ := hK m meth c ⟨T.setVm vm₁, locs, cells, slots⟩ { g with stack := rest } (.invokestatic index) mk argsL.toArray X₁ hg hsize hdg hW (X₁.named hnamed) (hpre vm₁ X₁.warmed)
  exact ⟨v, vm₁, B, X₁.warmed, X', hpost, fun target h => hstep₁ _ fun acts => by rw [doInvoke_state]; exact hsteps.trans h⟩
theorem vx_runSW {y : MethodName} {bytes cc : ByteArray} {maxL nL mc ms n index : Nat} {ret : Option FieldType} {hh : List (Nat × Nat × Nat × Nat)} {ws : List Cond} {rm : Room} {Pc : Array Value → State → Prop} {Qc : Array Value → State → Outcome → State → Prop} {free : Addr → Prop} {Ts : List Cond} {own : String} {As rest : List Value} {g : JFrame}
    (S : CallFix p m c cc nL s args Ts own) (hM : Met l y ws rm Pc Qc mc ms free) (cw : vx_CSW R s args own index y bytes maxL ret hh ws rm mc ms n) (hp : PreS s H Pc As)
    (hg : g.method = m) (hn : As.length = n) (hsize : g.locals.size = nL) (hstack : g.stack = As.reverse ++ rest) (hW : 2 * g.monitorRoom + (rest.map fun v => v.category).sum ≤ 8) (hdg : decode cc g.pc = .ok (.invokestatic index, 3)) (hf : cells + mc ≤ R.cells ∧ slots + ms ≤ R.slots) :
    va_Run p l e R s m args below meth c H locs cells slots mc ms g rest (Qc As.toArray) (free) := by
  obtain ⟨⟨hrc, hrs, hfr, hlo, hws, hcw⟩, hcode, hini, hy, hlen, hl, hstt⟩ := cw
  have hK : Back l R p e below s args y 3 8 (PreOf R mc ms Pc) (PostOf Qc mc ms free) := va_backW (hh := hh) (bytes := bytes) (maxL := maxL) (ret := ret) hM hp.1 hrc hrs hfr hlo hws hcw (fun a' U hW => word_at hW (Or.inl (by first | rfl | simp [Cond.onTables, Cond.keeps, Cond.steady])) hini)
  obtain ⟨hx, hb, hml, ho, -⟩ := S
  intro T hT X
  obtain ⟨v, vm₁, ⟨U', l2, c2, s2⟩, hW₁, X', ⟨g', mk, t, L, e1, e2, hq, h1, hL, h2, h3⟩, st⟩ := vx_callSW X hx (hh := hh) (bytes := bytes) (maxL := maxL) (ret := ret) ho hl hstt hini hcode hy hK hg (hsize.trans hml.symm) (argsL := As) (rest := rest) (fun sig h => hn.trans (hlen sig h)) hstack hW (by rw [hb]; exact hdg)
    (fun vm₁ hW₁ => ⟨hf.1, hf.2, hp.2 (T.setVm vm₁) hT hW₁⟩)
  dsimp only [Pt.U, Pt.locs, Pt.cells, Pt.slots] at X' e1 e2 h1 h2 h3 st
  subst h1; subst h2; subst h3
  exact ⟨v, (T.setVm vm₁).calling g' mk As.toArray, t, U', L, hT, X', hL, e1, e2, hq, st⟩
/-- not caught here, past rows that name other classes: it goes on to the caller -/
theorem vx_outP {p : Program} {l : Launch} {e : Env} {R : Room} {s : State} {m : MethodId} {args : Array Value} {below : List Frame} {meth : Method} {c : Code} {H : Heap} {locs : List Loc} {cells slots : Nat} {free : Addr → Prop} {ls : Array Slot} {rest : List Value} {Qc : Array Value → State → Outcome → State → Prop} {XC : String → State → State → Prop}
    {pc : Nat} {own E : String} {ce : Cell} {q : Addr} {mc ms : Nat} (hown : s.vm.findClass own = some m.cls) (hlocks : meth.locks = false)
    (hpass : ∀ z ∈ c.exceptionTable.toList, covers z pc = false ∨ (z.catchType ≠ 0 ∧ ∃ nm : String, (Cond.classLink own z.catchType nm).before args s = true ∧ va_Nc E nm s)) (hcell : H[q]? = some ce) (hv : ce.vm = .none) (hcl : s.vm.findClass E = some ce.cls)
    (hx : ∀ t : State, t.heap = H → s.vm.Alike t.vm → XC E s t) (hf : ∀ z ∈ locs, free z.base) (hc : cells ≤ mc) (hs : slots ≤ ms) :
    vx_W p l e R s m args below meth c H locs cells slots (vx_MQ below Qc XC args s mc ms free) (F0 m pc ls rest) q := by
  intro T hT X
  have hpl : e.platform.magicAccessors = ({} : Platform).magicAccessors := by rw [X.admits.platform]
  obtain ⟨vm', hW', X', st⟩ := X.outThrough hlocks q (g := F0 m pc ls rest) rfl rfl rfl (cell := ce) (by rw [hT]; exact hcell) (by rw [hv]; rfl)
    (by obtain ⟨k9, h9, -⟩ := Vm.findClass_spec hcl; exact ⟨k9, h9⟩) (fun z hz => by
      rcases hpass z hz with h | ⟨hz0, nm, hl1, hn1⟩
      · exact Or.inl h
      · obtain ⟨c6, hc6, hcl6⟩ := Cond.classLink_spec hown hl1 e.platform hpl
        obtain ⟨a8, b8, h1, h2, h3⟩ := hn1
        cases Option.some.inj (h1.symm.trans hcl)
        cases Option.some.inj (h2.symm.trans hc6)
        exact Or.inr ⟨hz0, _, hcl6, h3⟩)
  obtain ⟨g₀, hfr⟩ := X'.frames_eq
  have hcell9 : ((T.setVm vm').setFrames (.throwing q :: below)).heap[q]? = some ce := by
    show T.heap[q]? = some ce
    rw [hT]; exact hcell
  have hend : Ended ((T.setVm vm').setFrames (.throwing q :: below)) below (.threw q) := State.frames_setFrames _ (State.cur_lt_of_frames hfr)
  refine ⟨(T.setVm vm').setFrames (.throwing q :: below), ?_, .threw q, X'.here.running, hend, Or.inr ⟨q, rfl, E, ce, locs, hx _ hT (X'.ends _).1.alike, hcell9, hv, hcl, (X'.ends _).1, (X'.ends _).2.mono hc hs, hf⟩⟩
  rw [X.pushThrowing_eq]
  exact st
/-- a thing of a world lies in the heap -/
theorem vx_lt {D : va_G} {cl : List vw_C} {ws : va_W} {H1 : Heap} (h : va_P D cl ws H1) {k : Nat} {q : Nat × va_E} (hk : ws[k]? = some q) : q.1 < H1.size := (h k q hk).lt
end VXS
/-! ===== END ===== -/
end
section
/-! A PIECE of a method's run: from a place to another, for the law's own body. -/
theorem ab_sp_mono {n k i : Nat} {L : ab_F} {st : List ab_V} {w : ab_W} {q : Nat × ab_F × List ab_V × ab_W} (hs : ab_sp (fun k' L' w' => ab_run n k' 0 L' [] w') k i L st w = some q) : w.1 ≤ q.2.2.2.1 ∧ w.2.1 ≤ q.2.2.2.2.1 := by
  unfold ab_sp at hs
  cases ho : ab_nth (ab_cod k) i with
  | none => rw [ho] at hs; cases hs
  | some o =>
    rw [ho] at hs
    dsimp only at hs
    split at hs
    · split at hs
      · split at hs
        · cases hs
        · rename_i y hy
          split at hs
          · have h9 := ab_run_mono _ _ _ hy
            cases hs
            exact h9
          · cases hs
      · cases hs
    · exact ab_ex_mono hs
theorem ab_stepW (l : Launch) {D : va_G} {cA : Nat → ClassId} {bnd : Nat} {aS : Int → Nat} {SL : Nat} {xs : Nat → Int32} {n k i : Nat} {L : ab_F} {st : List ab_V} {w : ab_W} {q : Nat × ab_F × List ab_V × ab_W} (hs : ab_sp (fun k' L' w' => ab_run n k' 0 L' [] w') k i L st w = some q)
    {p : Program} {e : Env} {R : Room} {s : State} {m : MethodId} {args : Array Value} {below : List Frame} {meth : Method} {c : Code} {Q : State → Prop} {K0 : Int} {S0 : Nat} (C : ab_Cx D cA bnd aS SL xs k p R s m args meth c) (hk0 : K0 ≤ w.1) (hs0 : S0 ≤ w.2.1) (hr1 : (q.2.2.2.1 - K0).toNat ≤ R.cells) (hr2 : q.2.2.2.2.1 - S0 ≤ R.slots)
    (kk : ab_WW p l e R s m args below meth c Q D cA bnd aS SL xs K0 S0 k q.1 q.2.1 q.2.2.1 q.2.2.2) : ab_WW p l e R s m args below meth c Q D cA bnd aS SL xs K0 S0 k i L st w := by
  unfold ab_sp at hs
  cases ho : ab_nth (ab_cod k) i with
  | none => rw [ho] at hs; cases hs
  | some o =>
    obtain ⟨op, a, b, nx⟩ := o
    rw [ho] at hs
    dsimp only at hs
    split at hs
    · split at hs
      · rename_i hc
        simp only [Bool.and_eq_true] at hc
        split at hs
        · cases hs
        · rename_i y hy
          split at hs
          · rename_i hnt
            cases hs
            obtain ⟨g1, g2⟩ := ab_run_mono _ _ _ hy
            have hok := hc.1
            simp only [ab_okc, Bool.and_eq_true] at hok
            have hk1 : a < 245 := ab_blt hok.1.1.1.1
            have hcm : ab_cat (st.take b.toNat).reverse ≤ ab_mxl a := by rw [ab_cat_rev]; exact Nat.le_of_ble_eq_true hok.1.1.1.2
            dsimp only at hr1 hr2 kk
            refine ab_p1 C ho hc.1 hc.2 hnt (ab_met l hk1 hcm (fun p e s m args below meth c C2 hlocks hret => ?_)) g1 g2 hk0 hs0 hr1 hr2 kk
            exact ab_sound l _ _ _ _ _ _ _ _ hy C2 (Int.le_refl _) (Nat.le_refl _) (Nat.le_refl _) (Nat.le_refl _) (fun i' L' st' hrt => ab_rt_W C2 hlocks hret hrt hnt)
          · cases hs
      · cases hs
    · exact ab_ex_ok C ho hs hk0 hs0 hr1 hr2 kk
theorem ab_it_mono {n k : Nat} : ∀ (t : Nat) {q x : Nat × ab_F × List ab_V × ab_W}, ab_it n k t q = some x → q.2.2.2.1 ≤ x.2.2.2.1 ∧ q.2.2.2.2.1 ≤ x.2.2.2.2.1 := by
  intro t
  induction t with
  | zero => intro q x h; cases h; exact ⟨Int.le_refl _, Nat.le_refl _⟩
  | succ t ih =>
    intro q x h
    rw [ab_it] at h
    split at h
    · cases h
    · rename_i y hy
      have h1 := ab_sp_mono hy
      have h2 := ih h
      exact ⟨Int.le_trans h1.1 h2.1, Nat.le_trans h1.2 h2.2⟩
theorem ab_itW (l : Launch) {D : va_G} {cA : Nat → ClassId} {bnd : Nat} {aS : Int → Nat} {SL : Nat} {xs : Nat → Int32} {n k : Nat} {p : Program} {e : Env} {R : Room} {s : State} {m : MethodId} {args : Array Value} {below : List Frame} {meth : Method} {c : Code} {Q : State → Prop} {K0 : Int} {S0 : Nat} (C : ab_Cx D cA bnd aS SL xs k p R s m args meth c) :
    ∀ (t : Nat) {q x : Nat × ab_F × List ab_V × ab_W}, ab_it n k t q = some x → K0 ≤ q.2.2.2.1 → S0 ≤ q.2.2.2.2.1 → (x.2.2.2.1 - K0).toNat ≤ R.cells → x.2.2.2.2.1 - S0 ≤ R.slots → ab_WW p l e R s m args below meth c Q D cA bnd aS SL xs K0 S0 k x.1 x.2.1 x.2.2.1 x.2.2.2 → ab_WW p l e R s m args below meth c Q D cA bnd aS SL xs K0 S0 k q.1 q.2.1 q.2.2.1 q.2.2.2 := by
  intro t
  induction t with
  | zero => intro q x h _ _ _ _ kk; cases h; exact kk
  | succ t ih =>
    intro q x h hk0 hs0 hr1 hr2 kk
    rw [ab_it] at h
    split at h
    · cases h
    · rename_i y hy
      have h1 := ab_sp_mono hy
      have h2 := ab_it_mono t h
      exact ab_stepW l hy C hk0 hs0 (by omega) (by omega) (ih h (Int.le_trans hk0 h1.1) (Nat.le_trans hs0 h1.2) hr1 hr2 kk)
theorem ab_it_more {n m k : Nat} (hnm : n ≤ m) : ∀ (t : Nat) {q x : Nat × ab_F × List ab_V × ab_W}, ab_it n k t q = some x → ab_it m k t q = some x := by
  intro t
  induction t with
  | zero => intro q x h; exact h
  | succ t ih =>
    intro q x h
    rw [ab_it] at h ⊢
    split at h
    · cases h
    · rename_i y hy
      rw [ab_sp_more (rn' := fun k' L' w' => ab_run m k' 0 L' [] w') (fun k L w x hx => ab_run_more hnm hx) hy]
      exact ih h
/-- from that place on the run comes to a place, with locals, stack and world that satisfy T -/
def ab_Gn (k i : Nat) (L : ab_F) (st : List ab_V) (w : ab_W) (T : Nat → ab_F → List ab_V → ab_W → Prop) : Prop := ∃ (n t : Nat) (q : Nat × ab_F × List ab_V × ab_W), ab_it n k t (i, L, st, w) = some q ∧ T q.1 q.2.1 q.2.2.1 q.2.2.2
theorem Gn_done {k i : Nat} {L : ab_F} {st : List ab_V} {w : ab_W} {T : Nat → ab_F → List ab_V → ab_W → Prop} (h : T i L st w) : ab_Gn k i L st w T := ⟨0, 0, (i, L, st, w), rfl, h⟩
theorem Gn_sp {n k i : Nat} {L : ab_F} {st : List ab_V} {w : ab_W} {T : Nat → ab_F → List ab_V → ab_W → Prop} {q : Nat × ab_F × List ab_V × ab_W} (hs : ab_sp (fun k' L' w' => ab_run n k' 0 L' [] w') k i L st w = some q) (h : ab_Gn k q.1 q.2.1 q.2.2.1 q.2.2.2 T) : ab_Gn k i L st w T := by
  obtain ⟨n2, t, q2, hi, hT⟩ := h
  refine ⟨max n n2, t + 1, q2, ?_, hT⟩
  rw [ab_it]
  dsimp only
  rw [ab_sp_more (rn' := fun k' L' w' => ab_run (max n n2) k' 0 L' [] w') (fun k L w x hx => ab_run_more (Nat.le_max_left n n2) hx) hs]
  exact ab_it_more (Nat.le_max_right n n2) t hi
theorem Gn_ex {k i op a nx : Nat} {b : Int} {L : ab_F} {st : List ab_V} {w : ab_W} {T : Nat → ab_F → List ab_V → ab_W → Prop} {q : Nat × ab_F × List ab_V × ab_W} (ho : ab_nth (ab_cod k) i = some (op, a, b, nx)) (h1 : op ≠ 1) (hx : ab_ex (op, a, b, nx) L st w = some q) (h : ab_Gn k q.1 q.2.1 q.2.2.1 q.2.2.2 T) : ab_Gn k i L st w T :=
  Gn_sp (n := 0) (by rw [ab_sp_ex ho h1]; exact hx) h
theorem Gn_pure {k : Nat} {w : ab_W} {T : Nat → ab_F → List ab_V → ab_W → Prop} : ∀ (n : Nat) {i i' : Nat} {L L' : ab_F} {st st' : List ab_V}, ab_psn n k i L st = some (i', L', st') → ab_Gn k i' L' st' w T → ab_Gn k i L st w T := by
  intro n
  induction n with
  | zero =>
    intro i i' L L' st st' h kk
    simp only [ab_psn, Option.some.injEq, Prod.mk.injEq] at h
    obtain ⟨rfl, rfl, rfl⟩ := h
    exact kk
  | succ n ih =>
    intro i i' L L' st st' h kk
    rw [ab_psn] at h
    cases ho : ab_nth (ab_cod k) i with
    | none => rw [ho] at h; cases h
    | some o =>
      rw [ho] at h
      dsimp only at h
      cases hp : ab_ps o L st with
      | none => rw [hp] at h; cases h
      | some q =>
        rw [hp] at h
        have hop := ab_ps_op hp
        obtain ⟨op, a, b, nx⟩ := o
        exact Gn_ex ho hop.2.1 (ab_ps_ex hp) (ih h kk)
theorem Gn_W (l : Launch) {D : va_G} {cA : Nat → ClassId} {bnd : Nat} {aS : Int → Nat} {SL : Nat} {xs : Nat → Int32} {k i : Nat} {L : ab_F} {st : List ab_V} {w : ab_W} {T : Nat → ab_F → List ab_V → ab_W → Prop} (h : ab_Gn k i L st w T)
    {p : Program} {e : Env} {R : Room} {s : State} {m : MethodId} {args : Array Value} {below : List Frame} {meth : Method} {c : Code} {Q : State → Prop} {K0 : Int} {S0 : Nat} (C : ab_Cx D cA bnd aS SL xs k p R s m args meth c) (hk0 : K0 ≤ w.1) (hs0 : S0 ≤ w.2.1)
    (kk : ∀ (i' : Nat) (L' : ab_F) (st' : List ab_V) (w' : ab_W), T i' L' st' w' → (w'.1 - K0).toNat ≤ R.cells ∧ w'.2.1 - S0 ≤ R.slots ∧ ab_WW p l e R s m args below meth c Q D cA bnd aS SL xs K0 S0 k i' L' st' w') : ab_WW p l e R s m args below meth c Q D cA bnd aS SL xs K0 S0 k i L st w := by
  obtain ⟨n, t, q, hi, hT⟩ := h
  obtain ⟨h1, h2, h3⟩ := kk _ _ _ _ hT
  exact ab_itW l C t hi hk0 hs0 h1 h2 h3
theorem WW_weak {p : Program} {l : Launch} {e : Env} {R : Room} {s : State} {m : MethodId} {args : Array Value} {below : List Frame} {meth : Method} {c : Code} {Q : State → Prop} {D : va_G} {cA : Nat → ClassId} {bnd : Nat} {aS : Int → Nat} {SL : Nat} {xs : Nat → Int32} {K0 : Int} {S0 k i : Nat} {L L' : ab_F} {st : List ab_V} {w : ab_W} (hle : ∀ (j : Nat) (v : ab_V), ab_lk L' j = some v → ab_lk L j = some v)
    (h : ab_WW p l e R s m args below meth c Q D cA bnd aS SL xs K0 S0 k i L' st w) : ab_WW p l e R s m args below meth c Q D cA bnd aS SL xs K0 S0 k i L st w := by
  intro H locs ls hw hS hl
  refine h H locs ls hw hS (ab_has_sub hl (fun q hq => ?_))
  obtain ⟨j, v, rfl, hj⟩ := ab_al_of hq
  exact ab_al_in (hle j v hj)
section GnRules
variable {k i a nx : Nat} {b : Int} {L : ab_F} {st : List ab_V} {T : Nat → ab_F → List ab_V → ab_W → Prop} {K : Int} {S : Nat} {g r : ab_H}
theorem Gn_lald {x j n : Int} (ho : ab_nth (ab_cod k) i = some (46, a, b, nx)) (hx : ab_AR K x 103 n) (hj : 0 ≤ j ∧ j < n) (kk : ab_Gn k nx L ((1, g x j) :: st) (K, S, g, r) T) : ab_Gn k i L ((0, j) :: (2, x) :: st) (K, S, g, r) T :=
  Gn_ex ho (by decide) (by show (if _ then _ else none) = _; exact if_pos ⟨ab_AR_c hx, ab_AR_n hx hj⟩) kk
theorem Gn_sld {j : Int} (ho : ab_nth (ab_cod k) i = some (67, a, b, nx)) (hj : 0 ≤ j ∧ j < r (-2) (-1)) (kk : ab_Gn k nx L ((0, g (-2) j) :: st) (K, S, g, r) T) : ab_Gn k i L ((0, j) :: (2, -2) :: st) (K, S, g, r) T :=
  Gn_ex ho (by decide) (by show (if _ then _ else none) = _; exact if_pos ⟨rfl, hj⟩) kk
theorem Gn_slen (ho : ab_nth (ab_cod k) i = some (68, a, b, nx)) (kk : ab_Gn k nx L ((0, r (-2) (-1)) :: st) (K, S, g, r) T) : ab_Gn k i L ((2, -2) :: st) (K, S, g, r) T :=
  Gn_ex ho (by decide) (by show (if (-2 : Int) = -2 then _ else none) = _; exact if_pos rfl) kk
theorem Gn_if {x : Int} (ho : ab_nth (ab_cod k) i = some (32, a, b, nx)) (kk : ab_Gn k (if ab_cB b x 0 then a else nx) L st (K, S, g, r) T) : ab_Gn k i L ((0, x) :: st) (K, S, g, r) T :=
  Gn_ex ho (by decide) rfl kk
theorem Gn_ic {x y : Int} (ho : ab_nth (ab_cod k) i = some (33, a, b, nx)) (kk : ab_Gn k (if ab_cB b x y then a else nx) L st (K, S, g, r) T) : ab_Gn k i L ((0, y) :: (0, x) :: st) (K, S, g, r) T :=
  Gn_ex ho (by decide) rfl kk
theorem Gn_ts {x : Int} (ho : ab_nth (ab_cod k) i = some (34, a, b, nx)) (kk : ab_Gn k (ab_ts a x) L st (K, S, g, r) T) : ab_Gn k i L ((0, x) :: st) (K, S, g, r) T :=
  Gn_ex ho (by decide) rfl kk
theorem Gn_call {k' : Nat} {w : ab_W} (av rest : List ab_V) (ho : ab_nth (ab_cod k) i = some (1, k', b, nx)) (h1 : (st.take b.toNat).reverse = av) (h2 : st.drop b.toNat = rest) (hok : ab_okc k k' b.toNat rest st = true) (hrv : ab_rvB k' av w.1 = true)
    (h : ab_Rn k' 0 (ab_en k' av) [] w (fun v w' => ab_nt v = true ∧ ab_Gn k nx L (v ++ rest) w' T)) : ab_Gn k i L st w T := by
  obtain ⟨n1, v, w1, hr1, hnt, hG⟩ := h
  refine Gn_sp (n := n1) (q := (nx, L, v ++ rest, w1)) ?_ hG
  rw [ab_sp_call ho rfl]
  dsimp only
  rw [h2, h1, if_pos (by rw [hok, hrv]; rfl), hr1]
  dsimp only
  rw [if_pos hnt]
theorem Gn_callI {k' : Nat} (av rest : List ab_V) (ho : ab_nth (ab_cod k) i = some (1, k', b, nx)) (h1 : (st.take b.toNat).reverse = av) (h2 : st.drop b.toNat = rest) (hok : ab_okc k k' b.toNat rest st = true) (hrv : ab_rvB k' av K = true)
    (h : ab_RI k' av K S g r (fun x g' r' => ab_Gn k nx L ((0, x) :: rest) (K, S, g', r') T)) : ab_Gn k i L st (K, S, g, r) T := by
  refine Gn_call av rest ho h1 h2 hok hrv ?_
  obtain ⟨n, v, w', hr, x, g', r', rfl, rfl, h3⟩ := h
  exact ⟨n, _, _, hr, rfl, h3⟩
end GnRules
end
section
/-! A THROW whose first constructor calls the one above by another index than the chain's own; after vx_throwS and the library's ctorThrowS, with that link apart. -/
/-- the words of such a throw: cls passes its text on to Y by 'index', Y and those above as the chain does -/
def xc_atoms (own : String) (ic : Nat) (X Y : String) (index : Nat) (bytes : ByteArray) (names : List String) : List Cond :=
  Bundle.throwableAtoms ++ Bundle.throwableSAtoms ++ (Bundle.passSAtoms X Y index bytes ++ Bundle.chainSAtoms Y names) ++
  [.methodLink own ic (Bundle.initS X), .instantiable X 6, .castable X X, .selects X Bundle.tFill0 Bundle.tFill0, .selects X Bundle.tFill Bundle.tFill,
   .lays X Bundle.tN "cause" "Ljava/lang/Throwable;", .lays X Bundle.tN "stackTrace" Bundle.steD, .lays X Bundle.tN "suppressedExceptions" Bundle.listD, .lays X Bundle.tN "detailMessage" "Ljava/lang/String;",
   .isRef (.static Bundle.tN "UNASSIGNED_STACK" Bundle.steD), .isRef (.static Bundle.tN "SUPPRESSED_SENTINEL" Bundle.listD),
   .fieldLink Bundle.tN 198 Bundle.tN "backtrace" "Ljava/lang/Object;", .lays Bundle.tN Bundle.tN "backtrace" "Ljava/lang/Object;", .lays X Bundle.tN "backtrace" "Ljava/lang/Object;"]
section XC
variable {p : Program} {l : Launch} {e : Env} {R : Room} {s : State} {m : MethodId} {args : Array Value} {below : List Frame} {meth : Method} {c : Code}
set_option maxHeartbeats 2000000 in
theorem xc_ctor {U0 : State} {locs : List Loc} {cells slots : Nat} (X : Stand p l e R s m args below meth c U0 locs cells slots) (hexec : p.tables.exec = Jvm.exec) (htr : e.platform.stackTraces = false) {own cls Y0 : String} {names : List String} {ic index : Nat} {bytes : ByteArray}
    (hown : s.vm.findClass own = some m.cls) (hcls : Bundle.fit cls = true) (hY0 : Bundle.fit Y0 = true) (hnames : ∀ n ∈ names, Bundle.fit n = true)
    (b0 : decode bytes 0 = .ok (.aload_n 0, 1)) (b1 : decode bytes 1 = .ok (.aload_n 1, 1)) (b2 : decode bytes 2 = .ok (.invokespecial index, 3)) (b5 : decode bytes 5 = .ok (.return_, 1))
    (h : ∀ a ∈ xc_atoms own ic cls Y0 index bytes names, a.before args s = true)
    (hlocs : ∀ x ∈ locs, ∀ cell, s.heap[x.base]? = some cell → cell.vm.isStatics = false)
    {a : Addr} {cX : ClassId} {kX : Class} (hfoundX : s.vm.findClass cls = some cX) (hkX : s.vm.classes[cX]? = some kX) (hcell : U0.heap[a]? = some (freshCell cX kX)) (hnew : s.heap.size ≤ a)
    {msg : Value} (hmsg : msg.isRef = true)
    {g : JFrame} (hg : g.method = m) (hsize : g.locals.size = c.maxLocals) (hlocked : g.locked = none) (hentered : g.entered = []) {rest : List Value} (hstack : g.stack = msg :: .ref a :: .ref a :: rest)
    (hd6 : decode c.code g.pc = .ok (.invokespecial ic, 3)) (hd9 : decode c.code (g.pc + 3) = .ok (.athrow, 1)) (hout : ∀ x ∈ c.exceptionTable.toList, covers x (g.pc + 3) = false)
    (hRframes : names.length + 4 < R.frames) (hRlocals : 2 * g.monitorRoom + ((Value.ref a :: rest).map fun v => v.category).sum + (13 * (names.length + 2) + 42) ≤ R.locals) (hlocks : meth.locks = false) :
    ∃ U : State, Steps p.tables e below (U0.setTop g) U ∧ U.status = .running ∧ Ended U below (.threw a) ∧ s.WarmedH U.vm ∧ s.sameButNew ({ U with vm := s.vm } : State) locs cells slots ∧
      ∃ ce, U.heap[a]? = some ce ∧ ce.vm = .none ∧ s.vm.findClass cls = some ce.cls := by
  have howns : e.platform.frameOwnsMonitors = true := by rw [X.admits.platform]
  have hfin : e.platform.finalization = false := by rw [X.admits.platform]
  have hpl : e.platform.magicAccessors = ({} : Platform).magicAccessors := by rw [X.admits.platform]
  have a' : ∀ x, x ∈ xc_atoms own ic cls Y0 index bytes names → x.holds args s none s [] = true := fun x hx => h x hx
  obtain ⟨T, Z0, L, -, Y⟩ := ThrowableC.of_atoms (args := args) howns hfin hpl (fun x hx => h x (by simp [xc_atoms, hx]))
  obtain ⟨Z, M, LZ, LM, hnZ⟩ := Init0T.ofS_atoms (args := args) hpl L Y (fun x hx => h x (by simp [xc_atoms, hx]))
  obtain ⟨P2, Ps, hlen, L2, hL, hP2m, hlink2, hlinks⟩ := Bundle.chainS (args := args) hpl hnZ names Y0 hY0 hnames (fun x hx => h x (by simp [xc_atoms, hx]))
  obtain ⟨P1, L1, hP1m, hP1s⟩ := PassC.ofS_atoms (args := args) (s := s) hpl (X := cls) (Y := Y0) (Bundle.fit_spec hcls).1 (Bundle.fit_spec hY0).2 b0 b1 b2 b5 (fun x hx => h x (by simp [xc_atoms, hx]))
  have hlink1 : P1.sup = P2.m := Option.some.inj (hP1s.symm.trans hP2m)
  have hfound : s.vm.findClass cls = some P1.m.cls := findClass_of_methodNamed hP1m
  cases Option.some.inj (hfoundX.symm.trans hfound)
  obtain ⟨c1, kX', hc1, hk, hord, -, -, hn6⟩ := Cond.instantiable_spec (a' (.instantiable cls 6) (by simp [xc_atoms]))
  cases Option.some.inj (hc1.symm.trans hfound)
  cases Option.some.inj (hkX.symm.trans hk)
  have hsel0 : selectMethod e.platform s.vm P1.m.cls T.fill0 = .method T.fill0 := by
    obtain ⟨c2, r2, m2, q1, q2, q3, q4, -⟩ := Cond.selects_spec (a' (.selects cls Bundle.tFill0 Bundle.tFill0) (by simp [xc_atoms]))
    cases Option.some.inj (q1.symm.trans hfound)
    cases Option.some.inj (q2.symm.trans (State.methodFound?_of_named Y.fill0 (by decide)))
    cases Option.some.inj (q3.symm.trans Y.fill0)
    rw [Launch.admits_selectMethod X.admits]; exact q4
  have hselF : selectMethod e.platform s.vm P1.m.cls T.fill = .method T.fill := by
    obtain ⟨c2, r2, m2, q1, q2, q3, q4, -⟩ := Cond.selects_spec (a' (.selects cls Bundle.tFill Bundle.tFill) (by simp [xc_atoms]))
    cases Option.some.inj (q1.symm.trans hfound)
    cases Option.some.inj (q2.symm.trans (State.methodFound?_of_named Y.fill (by decide)))
    cases Option.some.inj (q3.symm.trans Y.fill)
    rw [Launch.admits_selectMethod X.admits]; exact q4
  obtain ⟨cellS0, hcS0, hiss⟩ := Y.statics
  obtain ⟨u0, hu0⟩ := Cond.staticRefV Y.unassigned L.unassignedStatic L.statics hcS0 hiss (a' (.isRef (.static Bundle.tN "UNASSIGNED_STACK" Bundle.steD)) (by simp [xc_atoms]))
  obtain ⟨sen, hsen⟩ := Cond.staticRefV Y.sentinel L.sentinelStatic L.statics hcS0 hiss (a' (.isRef (.static Bundle.tN "SUPPRESSED_SENTINEL" Bundle.listD)) (by simp [xc_atoms]))
  obtain ⟨ci198, i198, fB, hk198, hg198, ha198, hsB, -, hnB, htB, hffB⟩ := Cond.ownField (t := .object "java/lang/Object") Y.found L.cls (by decide +kernel) (a' (.fieldLink Bundle.tN 198 Bundle.tN "backtrace" "Ljava/lang/Object;") (by simp [xc_atoms])) (a' (.lays Bundle.tN Bundle.tN "backtrace" "Ljava/lang/Object;") (by simp [xc_atoms])) e.platform hpl
  obtain ⟨cellS, hcS', heS, -, hkeep⟩ := X.same.2.2.2.2.2 T.aS cellS0 hcS0
  have hcellS : U0.heap[T.aS]? = some cellS := hcS'
  have hout' : ∀ i, (⟨T.aS, i⟩ : Loc) ∉ locs := fun i hmem => by
    have := hlocs _ hmem cellS0 hcS0
    rw [hiss] at this; cases this
  have hknownS : cellS.vm ≠ .unknown := by
    rw [heS]; intro hu
    rw [show cellS0.vm = .unknown from hu] at hiss
    cases hiss
  have hneS : T.aS ≠ a := Nat.ne_of_lt (Nat.lt_of_lt_of_le (Array.getElem?_eq_some_iff.mp hcS0).1 hnew)
  obtain ⟨iM, hffM⟩ := Y.msg
  obtain ⟨tyC, dC, hdC, hdnC⟩ := Cond.laysAt hfound hk Y.cause (a' (.lays cls Bundle.tN "cause" "Ljava/lang/Throwable;") (by simp [xc_atoms]))
  obtain ⟨tyS, dS, hdS, hdnS⟩ := Cond.laysAt hfound hk Y.stack (a' (.lays cls Bundle.tN "stackTrace" Bundle.steD) (by simp [xc_atoms]))
  obtain ⟨tyP, dP, hdP, hdnP⟩ := Cond.laysAt hfound hk Y.supp (a' (.lays cls Bundle.tN "suppressedExceptions" Bundle.listD) (by simp [xc_atoms]))
  obtain ⟨tyM, dM, hdM, hdnM⟩ := Cond.laysAt hfound hk hffM (a' (.lays cls Bundle.tN "detailMessage" "Ljava/lang/String;") (by simp [xc_atoms]))
  obtain ⟨tyB, dB, hdB, hdnB⟩ := Cond.laysAt hfound hk hffB (a' (.lays cls Bundle.tN "backtrace" "Ljava/lang/Object;") (by simp [xc_atoms]))
  have bC := Cond.laysApart hdB hdC hdnB hdnC (by rw [hnB, Y.causeName]; decide)
  have bS := Cond.laysApart hdB hdS hdnB hdnS (by rw [hnB, Y.stackName]; decide)
  have bP := Cond.laysApart hdB hdP hdnB hdnP (by rw [hnB, Y.suppName]; decide)
  have hskip : SkipFacts T e.platform s (fun u => u) u0 ((preparedCellV T.toThrowableT (freshCell P1.m.cls kX) a u0 sen).withEntry U0.cur) :=
    ⟨{ ci198 := ci198, i198 := i198, fBack := fB }, ⟨hk198, hg198, ha198, hsB⟩, by
      have := fresh_default (c := P1.m.cls) tyB
      rw [htB] at this
      simpa [preparedCellV, Cell.setSlot, Cell.withEntry, Array.getElem?_setIfInBounds, bC, bS, bP, bC.symm, bS.symm, bP.symm, defaultValue] using this, fun _ _ => rfl⟩
  obtain ⟨tm, methC, cdC, kC, vm₁, hnC, -, -, -, -, -, -, -, hW₁, st1⟩ := Steps.initColdS (tb := p.tables) (e := e) (below := below) (s := s) (U := U0) X.here hexec X.warmed hpl hown (t := Bundle.initS cls) rfl rfl (Bundle.fit_spec hcls).2
    (a' (.methodLink own ic (Bundle.initS cls)) (by simp [xc_atoms])) (h (.instanceMethod (Bundle.initS cls)) (by simp [xc_atoms, Bundle.passSAtoms])) (bytes := bytes) (maxL := 2) (h (.code (Bundle.initS cls) bytes 2 none) (by simp [xc_atoms, Bundle.passSAtoms]))
    (f := g) hg (a := a) (msg := msg) (rest := .ref a :: rest) hstack hd6
  cases Option.some.inj (hnC.symm.trans hP1m)
  have X₁ := X.noted hW₁
  obtain ⟨vm₂, X₂, st2⟩ := X₁.ctorMessageOffV hexec (g := { g with stack := .ref a :: rest }) hg hsize T L Z LZ M LM (P1 :: P2 :: Ps)
    (fun P hP => by
      rcases List.mem_cons.mp hP with rfl | hP
      · exact L1
      · rcases List.mem_cons.mp hP with rfl | hP
        · exact L2
        · exact hL P hP) ⟨hlink1, hlink2, hlinks⟩ (u0 := u0) (sen := sen) (self := a) hmsg (cell := freshCell P1.m.cls kX) (cellS := cellS)
    hcell (fun _ => by simp) (by simp) rfl rfl hsel0 hselF hcellS hneS hknownS (by rw [hkeep _ (hout' _)]; exact hu0) (by rw [hkeep _ (hout' _)]; exact hsen)
    (Takes.of_laid hk hord tyC (by rw [Y.causeType]; rfl)) (Takes.of_laid hk hord tyS (by rw [Y.stackType]; exact fits_refV_array _ u0)) (Takes.of_laid hk hord tyP (by rw [Y.suppType]; exact fits_refV_object _ sen))
    (Takes.of_laid hk hord tyM (by rw [Y.msgType]; exact fits_refV_object _ ⟨msg, hmsg⟩)) Y.objLocals hskip htr [] hd6
    (by simp only [List.length_cons, hlen]; omega) (by simp only [List.length_cons, hlen]; exact hRlocals)
  obtain ⟨hwalk, hrun, hended, hWU, hsame⟩ := X₂.athrowLeaves hexec (g := { g with stack := .ref a :: rest, pc := g.pc + 3 }) hg hlocked hentered hout (a := a) (rest := rest) rfl hd9
  have hlt : a < ((U0.setVm vm₁).setVm vm₂).heap.size := (Array.getElem?_eq_some_iff.mp hcell).1
  have hU := heapAt_setCell_self (s := (U0.setVm vm₁).setVm vm₂) (plainBareV T.toThrowableT (freshCell P1.m.cls kX) a u0 sen msg) hlt
  refine ⟨_, st1 _ (fun acts => ?_), hrun, hended, hWU, hsame.weaken (fun y hy hlt' => ?_) (Nat.le_refl _) (Nat.le_refl _), _, hU, rfl, hfound⟩
  · rw [doInvoke_state]
    exact st2 _ hwalk
  · rcases List.mem_append.mp hy with h1 | h1
    · exact h1
    · exfalso
      have hb : y.base = a := by
        simp only [List.mem_cons, List.not_mem_nil, or_false] at h1
        rcases h1 with rfl | rfl | rfl | rfl | rfl <;> rfl
      rw [hb] at hlt'
      exact Nat.not_lt.mpr hnew hlt'
/-- 'throw new cls("text")': new; dup; ldc; invokespecial; athrow -/
theorem xc_throw {H : Heap} {locs : List Loc} {cells slots : Nat} {ls : Array Slot} {rest : List Value} {Qc : Array Value → State → Outcome → State → Prop} {XC : String → State → State → Prop} {free : Addr → Prop} {cc : ByteArray} {pc : Nat} (hexec : p.tables.exec = Jvm.exec) (hb : c.code = cc) (hl : l.stackTraces = false) {own cls Y0 text : String} {names : List String} {ik is ic index mc ms sa : Nat} {bytes : ByteArray} {A : Nat → Prop}
    (hown : s.vm.findClass own = some m.cls) (hcls : Bundle.fit cls = true) (hY0 : Bundle.fit Y0 = true) (hnames : ∀ n ∈ names, Bundle.fit n = true)
    (b0 : decode bytes 0 = .ok (.aload_n 0, 1)) (b1 : decode bytes 1 = .ok (.aload_n 1, 1)) (b2 : decode bytes 2 = .ok (.invokespecial index, 3)) (b5 : decode bytes 5 = .ok (.return_, 1))
    (hk : (Cond.classLink own ik cls).before args s = true) (hini : (Cond.initialized cls).before args s = true) (hstr : vk_R own is text sa s) (hat : ∀ w ∈ (xc_atoms own ic cls Y0 index bytes names).filter vx_no, w.before args s = true)
    (hgood : ∀ w ∈ Cond.classLink own ik cls :: Cond.initialized cls :: (xc_atoms own ic cls Y0 index bytes names).filter vx_no, vx_ot w = true)
    (hU : vx_Zq Bundle.tN "UNASSIGNED_STACK" Bundle.steD A s s.heap) (hN : vx_Zq Bundle.tN "SUPPRESSED_SENTINEL" Bundle.listD A s s.heap) (hS : va_S A s.heap H locs) (hsize : ls.size = c.maxLocals)
    (d0 : decode cc pc = .ok (.new ik, 3)) (d3 : decode cc (pc + 3) = .ok (.dup, 1)) (d4 : decode cc (pc + 4) = .ok (.ldc is, 2)) (d6 : decode cc (pc + 6) = .ok (.invokespecial ic, 3)) (d9 : decode cc (pc + 9) = .ok (.athrow, 1))
    (hout : ∀ x ∈ c.exceptionTable.toList, covers x (pc + 9) = false)
    (hRframes : names.length + 4 < R.frames) (hRlocals : (rest.map fun v => v.category).sum + (13 * (names.length + 2) + 43) ≤ R.locals) (hRcells : cells + 1 ≤ R.cells) (hRslots : slots + 6 ≤ R.slots) (hlocks : meth.locks = false)
    (hx : ∀ t : State, s.vm.Alike t.vm → H.size ≤ t.heap.size → (∀ q : Nat, q < H.size → t.heap[q]? = H[q]?) → XC cls s t)
    (hf : ∀ z ∈ locs, free z.base) (hc : cells + 1 ≤ mc) (hs : slots + 6 ≤ ms) :
    W p l e R s m args below meth c H locs cells slots (vx_MQ below Qc XC args s mc ms free) (F0 m pc ls rest) := by
  intro T hT X
  have htr : e.platform.stackTraces = false := (show e.platform.stackTraces = l.stackTraces by rw [X.admits.platform]).trans hl
  have Y := vx_rebase X (R' := { frames := R.frames, locals := R.locals, cells := 1, slots := 6 }) (Nat.le_refl _) (Nat.le_refl _) hRcells hRslots
  obtain ⟨s', hA⟩ : ∃ z, z = (T.setVm s.vm).setFrames (.invoking m args :: below) := ⟨_, rfl⟩
  rw [← hA] at Y
  have hvm : s'.vm = s.vm := by rw [hA]; rfl
  have hhp : s'.heap = H := by rw [hA]; exact hT
  have hW0 : s.WarmedH s'.vm := by rw [hvm]; exact State.WarmedH.refl s
  have hat' : ∀ w ∈ (xc_atoms own ic cls Y0 index bytes names).filter vx_no, w.before args s' = true := fun w hw => vx_ot_at hW0 hvm.symm (hgood w (List.mem_cons_of_mem _ (List.mem_cons_of_mem _ hw))) (hat w hw)
  have hk' : (Cond.classLink own ik cls).before args s' = true := vx_ot_at hW0 hvm.symm (hgood _ List.mem_cons_self) hk
  have hini' : (Cond.initialized cls).before args s' = true := vx_ot_at hW0 hvm.symm (hgood _ (List.mem_cons_of_mem _ List.mem_cons_self)) hini
  have hU' : vx_Zq Bundle.tN "UNASSIGNED_STACK" Bundle.steD A s' s'.heap := by rw [hhp]; exact vx_Zq.moved hW0.alike (hU.kept hS.2.1)
  have hN' : vx_Zq Bundle.tN "SUPPRESSED_SENTINEL" Bundle.listD A s' s'.heap := by rw [hhp]; exact vx_Zq.moved hW0.alike (hN.kept hS.2.1)
  have h : ∀ w ∈ xc_atoms own ic cls Y0 index bytes names, w.before args s' = true := vx_own hat' (vx_isRefq hU'.1) (vx_isRefq hN'.1) hU'.2.word hN'.2.word
  have hown' : s'.vm.findClass own = some m.cls := by rw [hvm]; exact hown
  have hins : (Cond.instantiable cls 6).before args s' = true := h _ (by simp [xc_atoms])
  obtain ⟨vm₁, cX, kX, hfX, hkX, -, -, X₁, st1⟩ := Y.newCold hexec (own := own) (C := cls) (index := ik) (n := 6) hown' hk' hins hini'
    (g := F0 m pc ls rest) rfl (by rw [hb]; exact d0) (Nat.le_refl _) (Nat.le_refl _)
  generalize hT1 : (T.setVm vm₁).pushCell { cls := cX, slots := kX.instanceTypes.map defaultValue, vm := .none } = T1 at X₁ st1
  have hcat : (Value.ref T.heap.size).category = 1 := rfl
  have hcellA : T1.heap[T.heap.size]? = some (freshCell cX kX) := by rw [← hT1]; exact State.heap_pushCell_size _ _
  have d3' : decode c.code (pc + 3) = .ok (.dup, 1) := by rw [hb]; exact d3
  have d4' : decode c.code (pc + 4) = .ok (.ldc is, 2) := by rw [hb]; exact d4
  have hstr' : vk_R own is text sa s' := vk_R.warm hW0 hstr
  obtain ⟨U, hsteps, hrun, hend, hW, hsame, ce, hce, hcv, hccl⟩ := xc_ctor X₁ hexec htr (own := own) (cls := cls) (Y0 := Y0) (names := names) (ic := ic) hown' hcls hY0 hnames b0 b1 b2 b5 h (fun x hx => nomatch hx) hfX hkX hcellA (by rw [hhp, hT]; exact Nat.le_refl _) (msg := .ref sa) rfl
    (g := { method := m, pc := pc + 6, locals := ls, stack := .ref sa :: .ref T.heap.size :: .ref T.heap.size :: rest, locked := none }) rfl hsize rfl rfl (rest := rest) rfl
    (by rw [hb]; exact d6) (by rw [hb]; exact d9) hout hRframes (by simp only [List.map_cons, List.sum_cons, hcat]; omega) hlocks
  obtain ⟨f1, f2⟩ := vx_frame hsame
  rw [hhp] at f1 f2
  have hWs : s.WarmedH U.vm := State.WarmedH.trans hW0 hW
  have hcl : s.vm.findClass cls = some ce.cls := by
    rw [hvm] at hccl
    exact hccl
  have hall : s.sameButNew ({ U with vm := s.vm } : State) locs mc ms := by
    subst hA
    obtain ⟨e1, e2⟩ := hsame
    rw [State.setFrames_setFrames] at e1
    have h2 : (T.setVm s.vm).sameButNew ({ U with vm := s.vm } : State) [] (0 + 1) (0 + 6) := ⟨e1, e2⟩
    have h3 := X.same.trans h2
    rw [List.append_nil] at h3
    exact h3.mono hc hs
  refine ⟨U, ?_, .threw T.heap.size, hrun, hend, Or.inr ⟨T.heap.size, rfl, cls, ce, locs, hx U hWs.alike f1 (fun q hq => f2 q hq (fun z hz => nomatch hz)), hce, hcv, hcl, hWs, hall, hf⟩⟩
  refine st1 _ ?_
  show Steps p.tables e below (T1.setTop { method := m, pc := pc + 3, locals := ls, stack := .ref T.heap.size :: rest, locked := none }) _
  jvm_step X₁.here [X₁.here.top, hexec, d3', Value.category]
  exact X₁.ldcString hexec (own := own) (text := text) (index := is) (a := sa) hown' hstr'.1 hstr'.2
    (g := { method := m, pc := pc + 4, locals := ls, stack := .ref T.heap.size :: .ref T.heap.size :: rest, locked := none }) rfl d4' _ hsteps
end XC
end
section
/-! of() AND THE LAW'S OWN of(): what throws, what catches. -/
def xc_ps1 : List Nat := [20, 3230, 3239, 4002, 4005, 4007, 3231, 3232, 31, 32, 3233, 3238, 4003, 4023, 3220, 4024, 3222, 4025, 3224, 3234, 3236, 3226, 4019, 4020, 4022, 3226, 4010, 4011, 4012, 4013, 3212, 4013, 4014, 4015, 4016, 3214, 4016, 4017, 4018, 4019, 3216, 4009, 3209, 3210, 3217, 3218, 3219, 3221, 3223, 3225, 3229, 3228, 3227]
def xc_ps2 : List Nat := [20, 3230, 3239, 4002, 4005, 4007, 3231, 3232, 31, 32, 3233, 3238, 4003, 4023, 3220, 4024, 3222, 4025, 3224, 3234, 3236, 3226, 4019, 4020, 4022, 3226, 4045, 4046, 4047, 4013, 3212, 4013, 4014, 4015, 4016, 3214, 4016, 4017, 4018, 4019, 3216, 4044, 4035, 4036, 4037, 4001, 4038, 4039, 4040, 4041, 3229, 3228, 4042]
def xc_E1 : String := "java/lang/IndexOutOfBoundsException"
def xc_E2 : String := "java/util/NoSuchElementException"
def xc_R : String := "java/lang/RuntimeException"
def xc_at1 : List Cond := (xc_atoms "EventLedger" 182 xc_E1 xc_R 7 prog_19_method_2_code ["java/lang/Exception"]).filter vx_no
def xc_at2 : List Cond := (xc_atoms "EventLedger" 211 xc_E2 xc_R 13 prog_29_method_4_code ["java/lang/Exception"]).filter vx_no
theorem xc_eq1 : xc_at1 = xc_ps1.filterMap ab_gw := by decide +kernel
theorem xc_eq2 : xc_at2 = xc_ps2.filterMap ab_gw := by decide +kernel
def xc_bad : List Cond := [.castable xc_E1 xc_E1, .castable xc_E2 xc_E2, .declares (Bundle.initS xc_R), .declares (Bundle.initS "java/lang/Exception"), .declares (Bundle.initS Bundle.tN)]
theorem xc_bad_on : ∀ z ∈ xc_bad, z.onTables = true := by decide +kernel
theorem xc_gd1 : xc_at1.all (fun w => goodWord w || xc_bad.any (fun z => decide (w = z))) = true := by decide +kernel
theorem xc_gd2 : xc_at2.all (fun w => goodWord w || xc_bad.any (fun z => decide (w = z))) = true := by decide +kernel
theorem xc_in {ws : List Cond} {ps : List Nat} (he : ws = ps.filterMap ab_gw) (hg : ws.all (fun w => goodWord w || xc_bad.any (fun z => decide (w = z))) = true) : ∀ w ∈ ws, w ∈ ab_TB ∨ w ∈ xc_bad := by
  intro w hw
  have h1 := List.all_eq_true.mp hg w hw
  rw [he] at hw
  obtain ⟨i, -, hi⟩ := List.mem_filterMap.mp hw
  simp only [Bool.or_eq_true, List.any_eq_true, decide_eq_true_eq] at h1
  rcases h1 with h1 | ⟨z, hz, h1⟩
  · exact Or.inl (ab_in_TB hi h1)
  · exact Or.inr (h1 ▸ hz)
theorem xc_wk1 : Cond.classLink "EventLedger" 178 xc_E1 ∈ ab_TB := ab_in_TB (pl := 3208) rfl rfl
theorem xc_wk2 : Cond.classLink "EventLedger" 207 xc_E2 ∈ ab_TB := ab_in_TB (pl := 4034) rfl rfl
theorem xc_wi1 : Cond.initialized xc_E1 ∈ ab_TB := ab_in_TB (pl := 23) rfl rfl
theorem xc_wi2 : Cond.initialized xc_E2 ∈ ab_TB := ab_in_TB (pl := 24) rfl rfl
theorem xc_wl1 : Cond.classLink "EventLedgerLaw" 13 xc_E1 ∈ ab_TB := ab_in_TB (pl := 3202) rfl rfl
theorem xc_wl2 : Cond.classLink "EventLedgerLaw" 15 xc_E2 ∈ ab_TB := ab_in_TB (pl := 3203) rfl rfl
theorem xc_fit1 : Bundle.fit xc_E1 = true := by decide +kernel
theorem xc_fit2 : Bundle.fit xc_E2 = true := by decide +kernel
theorem xc_fitR : Bundle.fit xc_R = true := by decide +kernel
theorem xc_fitN : ∀ n ∈ ["java/lang/Exception"], Bundle.fit n = true := by decide +kernel
theorem xc_vot {ws : List Cond} (h : ∀ w ∈ ws, w ∈ ab_TB ∨ w ∈ xc_bad) : ∀ w ∈ ws, vx_ot w = true := fun w hw => by
  unfold vx_ot
  rcases h w hw with h | h
  · rw [(List.mem_filter.mp h).2, Bool.or_true]
  · rw [xc_bad_on w h, Bool.true_or]
theorem xc_bad_warm {s U : State} (hW : s.WarmedH U.vm) : ∀ z ∈ xc_bad, va_Nw z s → va_Nw z U := by
  intro z hz h
  simp only [xc_bad, List.mem_cons, List.not_mem_nil, or_false] at hz
  rcases hz with rfl | rfl | rfl | rfl | rfl
  · exact va_Nw.warmC hW h
  · exact va_Nw.warmC hW h
  · exact va_tabs rfl (rfl : (s.setVm U.vm).vm = U.vm) (by rw [Cond.declares_setVm hW.alike]; exact h)
  · exact va_tabs rfl (rfl : (s.setVm U.vm).vm = U.vm) (by rw [Cond.declares_setVm hW.alike]; exact h)
  · exact va_tabs rfl (rfl : (s.setVm U.vm).vm = U.vm) (by rw [Cond.declares_setVm hW.alike]; exact h)
/-- what a throw reads of the start: two statics of Throwable; the texts; that the one is no kind of the other -/
def xc_F (bnd : Nat) (U : State) (H : Heap) : Prop := vx_Zq Bundle.tN "UNASSIGNED_STACK" Bundle.steD (fun q => bnd ≤ q) U H ∧ vx_Zq Bundle.tN "SUPPRESSED_SENTINEL" Bundle.listD (fun q => bnd ≤ q) U H
theorem xc_F.moved {bnd : Nat} {u U : State} {H : Heap} (hvm : u.vm.Alike U.vm) (h : xc_F bnd u H) : xc_F bnd U H := ⟨vx_Zq.moved hvm h.1, vx_Zq.moved hvm h.2⟩
theorem xc_F.kept {bnd : Nat} {U : State} {H H1 : Heap} (h : xc_F bnd U H) (hq : ∀ a : Nat, a < H.size → ¬ bnd ≤ a → H1[a]? = H[a]?) : xc_F bnd U H1 := ⟨vx_Zq.kept h.1 hq, vx_Zq.kept h.2 hq⟩
def xc_V (U : State) : Prop := (∃ (t : String) (a : Nat), vk_R "EventLedger" 180 t a U) ∧ (∃ (t : String) (a : Nat), vk_R "EventLedger" 209 t a U) ∧ va_Nc xc_E2 xc_E1 U ∧ ∀ z ∈ xc_bad, va_Nw z U
theorem xc_V.same {u U : State} (hv : U.vm = u.vm) (h : xc_V u) : xc_V U := by
  obtain ⟨⟨t1, a1, h1⟩, ⟨t2, a2, h2⟩, h3, h4⟩ := h
  exact ⟨⟨t1, a1, h1.same hv⟩, ⟨t2, a2, h2.same hv⟩, va_Nc.moved (by rw [hv]; exact Vm.Alike.refl _) h3, fun z hz => va_Nw.same (xc_bad_on z hz) hv.symm (h4 z hz)⟩
theorem xc_V.warm {s U : State} (hW : s.WarmedH U.vm) (h : xc_V s) : xc_V U := by
  obtain ⟨⟨t1, a1, h1⟩, ⟨t2, a2, h2⟩, h3, h4⟩ := h
  exact ⟨⟨t1, a1, h1.warm hW⟩, ⟨t2, a2, h2.warm hW⟩, va_Nc.moved hW.alike h3, fun z hz => xc_bad_warm hW z hz (h4 z hz)⟩
def xc_P (D : va_G) (cA : Nat → ClassId) (bnd : Nat) (aS : Int → Nat) (SL : Nat) (xs : Nat → Int32) (av : List ab_V) (w : ab_W) : Array Value → State → Prop := fun a U => ab_Pc D cA bnd aS SL xs av w a U ∧ xc_F bnd U U.heap ∧ xc_V U
theorem xc_blind {D : va_G} {cA : Nat → ClassId} {bnd : Nat} {aS : Int → Nat} {SL : Nat} {xs : Nat → Int32} {av : List ab_V} {w : ab_W} : FrameBlind (xc_P D cA bnd aS SL xs av w) := by
  intro a U g mk h
  exact ⟨ab_blind a U g mk h.1, xc_F.moved (u := U) (U := U.calling g mk a) (Vm.Alike.refl U.vm) h.2.1, xc_V.same (u := U) rfl h.2.2⟩
def xc_Q (D : va_G) (cA : Nat → ClassId) (bnd : Nat) (aS : Int → Nat) (SL : Nat) (xs : Nat → Int32) (v : List ab_V) (w : ab_W) : Array Value → State → Outcome → State → Prop := fun a st o t => (∃ x : Int, v = [(0, x)]) ∧ ab_Qc D cA bnd aS SL xs v w a st o t
def xc_X (D : va_G) (cA : Nat → ClassId) (bnd : Nat) (aS : Int → Nat) (SL : Nat) (xs : Nat → Int32) (v : List ab_V) (w : ab_W) : String → State → State → Prop := fun E st t => ((v = [(9, 1)] ∧ E = xc_E1) ∨ (v = [(9, 2)] ∧ E = xc_E2)) ∧ ab_HW D cA bnd aS SL xs w t.heap ∧ va_F (fun q => bnd ≤ q) st t
def xc_rm : Room := { frames := 8, cells := 1, slots := 6, locals := 400 }
theorem xc_hw {D : va_G} {cA : Nat → ClassId} {bnd : Nat} {aS : Int → Nat} {SL : Nat} {xs : Nat → Int32} {w : ab_W} {H H1 : Heap} (h186 : w.1 = 186) (h : ab_HW D cA bnd aS SL xs w H) (hz : H.size ≤ H1.size) (hq : ∀ q : Nat, q < H.size → H1[q]? = H[q]?) : ab_HW D cA bnd aS SL xs w H1 := by
  obtain ⟨h1, h2, h3, h4, h5, h6⟩ := h
  refine ⟨fun a ha0 ha1 => ?_, fun hlt => absurd hlt (by omega), Nat.le_trans h3 hz, h4, h5, h6⟩
  have h8 := h1 a ha0 ha1
  exact h8.kept (hq _ h8.lt)
theorem xc_thrC : (List.range (ab_cod 8).length).all (fun i => match ab_nth (ab_cod 8) i with
    | some o => !Nat.beq o.1 72 || (Nat.beq i 5 && Nat.beq o.2.1 1) || (Nat.beq i 92 && Nat.beq o.2.1 2)
    | none => true) = true := by decide +kernel
theorem xc_thr {i c nx : Nat} {b : Int} (h : ab_nth (ab_cod 8) i = some (72, c, b, nx)) : (i = 5 ∧ c = 1) ∨ (i = 92 ∧ c = 2) := by
  have h1 := List.all_eq_true.mp xc_thrC i (List.mem_range.mpr (ab_nth_lt h))
  rw [h] at h1
  simp only [Bool.or_eq_true, Bool.and_eq_true, Bool.not_eq_true'] at h1
  rcases h1 with (h1 | h1) | h1
  · cases h1
  · exact Or.inl ⟨Nat.eq_of_beq_eq_true h1.1, Nat.eq_of_beq_eq_true h1.2⟩
  · exact Or.inr ⟨Nat.eq_of_beq_eq_true h1.1, Nat.eq_of_beq_eq_true h1.2⟩
/-- of() returns, or throws -/
theorem xc_met8 (l : Launch) (hst : l.stackTraces = false) {D : va_G} {cA : Nat → ClassId} {bnd : Nat} {aS : Int → Nat} {SL : Nat} {xs : Nat → Int32} {av v : List ab_V} {w w' : ab_W} {n : Nat} (hcat : ab_cat av ≤ ab_mxl 8) (hrun : ab_run n 8 0 (ab_en 8 av) [] w = some (v, w')) (hK1 : w'.1 = w.1) (hS1 : w'.2.1 = w.2.1) (h186 : w'.1 = 186) :
    vx_Met l (ab_yn 8) (ab_ws 8) xc_rm (xc_P D cA bnd aS SL xs av w) (xc_Q D cA bnd aS SL xs v w') (xc_X D cA bnd aS SL xs v w') 1 6 (fun q => bnd ≤ q) := by
  have hmk := ab_mk_ok (k := 8) (by omega)
  simp only [ab_mk, Bool.and_eq_true, decide_eq_true_eq] at hmk
  refine vx_ofW (cc := ab_bts 8) (maxL := ab_mxl 8) (ret := ab_rty 8) hmk.1.2 rfl ?_
  intro p e s m args below meth c s₁ B hml htab hv
  obtain ⟨⟨rfl, hw, hN, hK, hO, hF, hSL⟩, hxF, hxV⟩ := hv
  have hts := atoms_spec (ws := ab_ws 8) B.pre
  have hTB : ∀ z ∈ ab_TB, z.before (av.map (ab_cv (ab_ad bnd aS))).toArray s = true := fun z hz => hts z (List.mem_cons_of_mem _ hz)
  have hin := (name_of_methodNamed B.named B.method).1
  have C : ab_Cx D cA bnd aS SL xs 8 p xc_rm s m (av.map (ab_cv (ab_ad bnd aS))).toArray meth c :=
    ⟨B.exec, B.bytes, hml, findClass_of_methodNamed B.named, hTB, hN, fun h => by rw [hin]; exact h, hw.2.2.1, by decide +kernel, by decide +kernel, hK, hO, hF, hSL⟩
  have hlv := lv_entry (av.map (ab_cv (ab_ad bnd aS))) (n := ab_mxl 8) (by rw [ab_sl]; exact hcat)
  rw [lg_entry_eq]
  generalize (lg_sl (av.map (ab_cv (ab_ad bnd aS))) ++ List.replicate (ab_mxl 8 - (lg_sl (av.map (ab_cv (ab_ad bnd aS)))).length) Slot.unset).toArray = ls at hlv ⊢
  have hlv := ab_has_sub hlv (l' := ab_al (ab_ad bnd aS) 0 (ab_en 8 av)) (fun q hq => ab_args _ av 0 (ab_al_pad hq))
  have hown : s.vm.findClass "EventLedger" = some m.cls := C.2.2.2.1
  have h := ab_sound l n 8 0 (ab_en 8 av) [] w v w' hrun (Q := vx_MQ below (xc_Q D cA bnd aS SL xs v w') (xc_X D cA bnd aS SL xs v w') (av.map (ab_cv (ab_ad bnd aS))).toArray s 1 6 (fun q => bnd ≤ q)) (p := p) (e := e) (below := below) (K0 := w.1) (S0 := w.2.1) C (Int.le_refl _) (Nat.le_refl _) (by rw [hK1]; show (w.1 - w.1).toNat ≤ 1; omega) (by rw [hS1]; show w.2.1 - w.2.1 ≤ 6; omega) (fun i' L' st' hrt => ?_) s.heap [] ls hw va_S.rf hlv
  · rw [ab_pc0 (by omega), show (w.1 - w.1).toNat = 0 by omega, show w.2.1 - w.2.1 = 0 by omega] at h
    exact h
  · intro H locs ls hw hS hl
    rw [hK1, hS1, show (w.1 - w.1).toNat = 0 by omega, show w.2.1 - w.2.1 = 0 by omega]
    cases ho : ab_nth (ab_cod 8) i' with
    | none => unfold ab_rt at hrt; rw [ho] at hrt; cases hrt
    | some o =>
      obtain ⟨op, a, b, nx⟩ := o
      unfold ab_rt at hrt
      rw [ho] at hrt
      dsimp only at hrt
      split at hrt
      · obtain ⟨q, hq, hd, hsc, -⟩ := ab_dec ho (show (0 : Nat) < 72 by decide)
        cases List.mem_singleton.mp (show q ∈ [(Instr.return_, 1, decide (ab_rty 8 = none))] from hq)
        exact absurd (show decide (ab_rty 8 = none) = true from hsc) (by decide +kernel)
      · cases hrt
        obtain ⟨q, hq, hd, hsc, -⟩ := ab_dec ho (show (0 : Nat) < 72 by decide)
        cases List.mem_singleton.mp (show q ∈ [(Instr.ireturn, 1, decide (ab_rty 8 = some .int))] from hq)
        refine vx_ret (W.widen (k := 1) (n := 6) (by omega) (by omega) ?_)
        exact W.iret C.1 C.2.1 (B.returns.trans (of_decide_eq_true hsc)) (fun t ht hW => ⟨⟨_, rfl⟩, rfl, by rw [ht]; exact hw, hS.F ht⟩) hS.2.2 hd (hlocks := B.notSynchronized)
      · obtain ⟨q, hq, hd, hsc, -⟩ := ab_dec ho (show (0 : Nat) < 72 by decide)
        cases List.mem_singleton.mp (show q ∈ [(Instr.ireturn, 1, decide (ab_rty 8 = some .boolean))] from hq)
        exact absurd (show decide (ab_rty 8 = some .boolean) = true from hsc) (by decide +kernel)
      · cases hrt
        obtain ⟨⟨t1, a1, hx1⟩, ⟨t2, a2, hx2⟩, -, hx4⟩ := hxV
        rcases xc_thr ho with ⟨rfl, rfl⟩ | ⟨rfl, rfl⟩
        · exact xc_throw (own := "EventLedger") (cls := xc_E1) (Y0 := xc_R) (names := ["java/lang/Exception"]) (ik := 178) (is := 180) (ic := 182) (index := 7) (bytes := prog_19_method_2_code) (rest := []) C.1 C.2.1 hst hown xc_fit1 xc_fitR xc_fitN (by decide +kernel) (by decide +kernel) (by decide +kernel) (by decide +kernel) (hTB _ xc_wk1) (hTB _ xc_wi1) hx1 (fun z hz => (xc_in xc_eq1 xc_gd1 z hz).elim (hTB z) (fun e9 => va_Nw.use (xc_bad_on z e9) (hx4 z e9)))
            (xc_vot (fun z hz => by
              rcases List.mem_cons.mp hz with rfl | hz
              · exact Or.inl xc_wk1
              · rcases List.mem_cons.mp hz with rfl | hz
                · exact Or.inl xc_wi1
                · exact xc_in xc_eq1 xc_gd1 z hz)) hxF.1 hxF.2 hS (hl.1.trans hml.symm) (by decide +kernel) (by decide +kernel) (by decide +kernel) (by decide +kernel) (by decide +kernel) (fun x hx => absurd (htab x hx) id)
            (by decide) (by decide) (by decide) (by decide) B.notSynchronized (fun t hA hz hq => ⟨Or.inl ⟨rfl, rfl⟩, xc_hw h186 hw hz hq, ⟨Nat.le_trans hS.1 hz, fun q h1 h2 => by rw [hq q (Nat.lt_of_lt_of_le h1 hS.1)]; exact hS.2.1 q h1 h2⟩⟩) hS.2.2 (Nat.le_refl _) (Nat.le_refl _)
        · exact xc_throw (own := "EventLedger") (cls := xc_E2) (Y0 := xc_R) (names := ["java/lang/Exception"]) (ik := 207) (is := 209) (ic := 211) (index := 13) (bytes := prog_29_method_4_code) (rest := []) C.1 C.2.1 hst hown xc_fit2 xc_fitR xc_fitN (by decide +kernel) (by decide +kernel) (by decide +kernel) (by decide +kernel) (hTB _ xc_wk2) (hTB _ xc_wi2) hx2 (fun z hz => (xc_in xc_eq2 xc_gd2 z hz).elim (hTB z) (fun e9 => va_Nw.use (xc_bad_on z e9) (hx4 z e9)))
            (xc_vot (fun z hz => by
              rcases List.mem_cons.mp hz with rfl | hz
              · exact Or.inl xc_wk2
              · rcases List.mem_cons.mp hz with rfl | hz
                · exact Or.inl xc_wi2
                · exact xc_in xc_eq2 xc_gd2 z hz)) hxF.1 hxF.2 hS (hl.1.trans hml.symm) (by decide +kernel) (by decide +kernel) (by decide +kernel) (by decide +kernel) (by decide +kernel) (fun x hx => absurd (htab x hx) id)
            (by decide) (by decide) (by decide) (by decide) B.notSynchronized (fun t hA hz hq => ⟨Or.inr ⟨rfl, rfl⟩, xc_hw h186 hw hz hq, ⟨Nat.le_trans hS.1 hz, fun q h1 h2 => by rw [hq q (Nat.lt_of_lt_of_le h1 hS.1)]; exact hS.2.1 q h1 h2⟩⟩) hS.2.2 (Nat.le_refl _) (Nat.le_refl _)
      · cases hrt
end
section
/-! THE LAW'S OWN of(): it catches what of() throws. -/
def xc_rm2 : Room := { frames := 11, cells := 1, slots := 6, locals := 460 }
def xc_hh : List (Nat × Nat × Nat × Nat) := [(0, 10, 13, 13), (0, 10, 17, 15)]
theorem xc_wcw : Cond.codeWith (ab_yn 245) (ab_bts 245) (ab_mxl 245) (ab_rty 245) xc_hh ∈ ab_TB := ab_in_TB (pl := 3201) rfl rfl
theorem xc_wst : Cond.static (ab_yn 245) ∈ ab_TB := ab_in_TB (pl := 3200) rfl rfl
theorem xc_wml : Cond.methodLink "EventLedgerLaw" 52 (ab_yn 245) ∈ ab_TB := ab_in_TB (pl := 3199) rfl rfl
theorem xc_wm8 : Cond.methodLink "EventLedgerLaw" 7 (ab_yn 8) ∈ ab_TB := ab_in_TB (pl := 3204) rfl rfl
theorem xc_win : Cond.initialized "EventLedgerLaw" ∈ ab_TB := ab_in_TB (pl := 0) rfl rfl
def xc_ws2 : List Cond := Cond.codeWith (ab_yn 245) (ab_bts 245) (ab_mxl 245) (ab_rty 245) xc_hh :: ab_TB
def xc_Q2 (D : va_G) (cA : Nat → ClassId) (bnd : Nat) (aS : Int → Nat) (SL : Nat) (xs : Nat → Int32) (v : List ab_V) (w : ab_W) : Array Value → State → Outcome → State → Prop := fun _ st oc t =>
  ((∃ x : Int, v = [(0, x)] ∧ oc = .returned (some (.int (Int32.ofInt 0))) ∧ ab_HW D cA bnd aS SL xs (w.1, w.2.1, ab_up w.2.2.1 185 0 (wr x), w.2.2.2) t.heap) ∨
    ∃ cn : Int, v = [(9, cn)] ∧ oc = .returned (some (.int (Int32.ofInt cn))) ∧ ab_HW D cA bnd aS SL xs w t.heap) ∧ va_F (fun q => bnd ≤ q) st t
theorem xc_goodTB : GoodIn ab_TB ab_TB := fun w hw => ⟨hw, good_of_word (List.mem_filter.mp hw).2⟩
theorem xc_good2 : GoodIn ab_TB xc_ws2 := by
  intro w hw
  have h1 : w ∈ ab_TB := by
    rcases List.mem_cons.mp hw with rfl | hw
    · exact xc_wcw
    · exact hw
  exact xc_goodTB w h1
theorem xc_cat185 : (ab_kd 185).1 = 103 ∧ (ab_kd 185).2 = 1 := by decide +kernel
/-- from the value of of() on, the law's own of() -/
theorem xc_rest {S : Nat} {g r : ab_H} {p0 p1 x : Int} {T : Nat → ab_F → List ab_V → ab_W → Prop} (h : T 16 [some (2, 0), some (0, p0), some (0, p1), some (2, 185), none] [(0, 0)] (186, S, ab_up g 185 0 (wr x), r)) :
    ab_Gn 245 6 [some (2, 0), some (0, p0), some (0, p1), some (2, 185), none] [(0, x), (0, 0), (2, 185)] (186, S, g, r) T := by
  refine Gn_pure 1 (i' := 7) (L' := [some (2, 0), some (0, p0), some (0, p1), some (2, 185), none]) (st' := [(1, wr x), (0, 0), (2, 185)]) rfl ?_
  refine Gn_ex (q := (8, [some (2, 0), some (0, p0), some (0, p1), some (2, 185), none], [], (186, S, ab_up g 185 0 (wr x), r))) (show ab_nth (ab_cod 245) 7 = some (51, 0, 0, 8) from rfl) (by decide) (by
    show (if ((ab_kd 185).1 = 103 ∧ (0 : Int) ≤ 185 ∧ (185 : Int) < 186) ∧ (0 : Int) ≤ 0 ∧ (0 : Int) < (ab_kd 185).2 then _ else none) = _
    exact if_pos ⟨⟨xc_cat185.1, by omega, by omega⟩, by omega, by rw [xc_cat185.2]; omega⟩) ?_
  refine Gn_pure 2 (i' := 16) (L' := [some (2, 0), some (0, p0), some (0, p1), some (2, 185), none]) (st' := [(0, 0)]) rfl ?_
  exact Gn_done h
theorem xc_lw (l : Launch) (hst : l.stackTraces = false) {D : va_G} {cA : Nat → ClassId} {bnd : Nat} {aS : Int → Nat} {SL : Nat} {xs : Nat → Int32} {S n : Nat} {g r g1 r1 : ab_H} {p0 p1 : Int} {v : List ab_V} (hrun : ab_run n 8 0 (ab_en 8 [(2, 0), (0, p0), (0, p1)]) [] (186, S, g, r) = some (v, (186, S, g1, r1))) :
    Met l (ab_yn 245) xc_ws2 xc_rm2 (xc_P D cA bnd aS SL xs [(2, 0), (0, p0), (0, p1), (2, 185)] (186, S, g, r)) (xc_Q2 D cA bnd aS SL xs v (186, S + 6, g1, r1)) 1 6 (fun q => bnd ≤ q) := by
  refine va_MetW (cc := ab_bts 245) (maxL := ab_mxl 245) (ret := ab_rty 245) (hh := xc_hh) (by decide +kernel) rfl ?_
  intro p e s m args below meth c s₁ B hml hv
  obtain ⟨⟨rfl, hw, hN, hK, hO, hF, hSL⟩, hxF, hxV⟩ := hv
  have hts := atoms_spec (ws := xc_ws2) B.pre
  have hTB : ∀ z ∈ ab_TB, z.before ([(2, 0), (0, p0), (0, p1), (2, 185)].map (ab_cv (ab_ad bnd aS))).toArray s = true := fun z hz => hts z (List.mem_cons_of_mem _ hz)
  have htab := vx_table (x := ab_yn 245) B (hTB _ xc_wcw)
  have hin := (name_of_methodNamed B.named B.method).1
  have C : ab_Cx D cA bnd aS SL xs 245 p xc_rm2 s m ([(2, 0), (0, p0), (0, p1), (2, 185)].map (ab_cv (ab_ad bnd aS))).toArray meth c :=
    ⟨B.exec, B.bytes, hml, findClass_of_methodNamed B.named, hTB, hN, fun h => by rw [hin]; exact h, hw.2.2.1, by decide +kernel, by decide +kernel, hK, hO, hF, hSL⟩
  have hlv := lv_entry ([(2, 0), (0, p0), (0, p1), (2, 185)].map (ab_cv (ab_ad bnd aS))) (n := ab_mxl 245) (by rw [ab_sl]; show 4 ≤ 5; omega)
  rw [lg_entry_eq]
  generalize (lg_sl ([(2, 0), (0, p0), (0, p1), (2, 185)].map (ab_cv (ab_ad bnd aS))) ++ List.replicate (ab_mxl 245 - (lg_sl ([(2, 0), (0, p0), (0, p1), (2, 185)].map (ab_cv (ab_ad bnd aS)))).length) Slot.unset).toArray = ls at hlv ⊢
  have hlv := ab_has_sub hlv (l' := ab_al (ab_ad bnd aS) 0 [some (2, 0), some (0, p0), some (0, p1), some (2, 185), none]) (fun q hq => ab_args _ [(2, 0), (0, p0), (0, p1), (2, 185)] 0 (ab_al_pad (n := 5) hq))
  have hown : s.vm.findClass "EventLedgerLaw" = some m.cls := C.2.2.2.1
  have S1 : CallFix p m c (ab_bts 245) (ab_mxl 245) s ([(2, 0), (0, p0), (0, p1), (2, 185)].map (ab_cv (ab_ad bnd aS))).toArray ab_TB "EventLedgerLaw" := ⟨C.1, C.2.1, C.2.2.1, hown, hTB⟩
  have hG : ab_Gn 245 0 [some (2, 0), some (0, p0), some (0, p1), some (2, 185), none] [] (186, S, g, r) (fun i' L' st' w' => i' = 5 ∧ L' = [some (2, 0), some (0, p0), some (0, p1), some (2, 185), none] ∧ st' = [(0, p1), (0, p0), (2, 0), (0, 0), (2, 185)] ∧ w' = (186, S, g, r)) :=
    Gn_pure 5 (i' := 5) (L' := [some (2, 0), some (0, p0), some (0, p1), some (2, 185), none]) (st' := [(0, p1), (0, p0), (2, 0), (0, 0), (2, 185)]) rfl (Gn_done ⟨rfl, rfl, rfl, rfl⟩)
  have h := Gn_W l hG (Q := MQ below (xc_Q2 D cA bnd aS SL xs v (186, S + 6, g1, r1)) ([(2, 0), (0, p0), (0, p1), (2, 185)].map (ab_cv (ab_ad bnd aS))).toArray s 1 6 (fun q => bnd ≤ q)) (p := p) (e := e) (below := below) (K0 := 186) (S0 := S) C (Int.le_refl _) (Nat.le_refl _) (fun i' L' st' w' hT => ?_) s.heap [] ls hw va_S.rf hlv
  · rw [ab_pc0 (by omega), show ((186 : Int) - 186).toNat = 0 by omega, show S - S = 0 by omega] at h
    exact h
  · obtain ⟨rfl, rfl, rfl, rfl⟩ := hT
    refine ⟨by show (186 - 186 : Int).toNat ≤ 1; omega, by show S - S ≤ 6; omega, ?_⟩
    intro H locs ls hw hS hl
    rw [show (((186, S, g, r) : ab_W).1 - 186).toNat = 0 by show ((186 : Int) - 186).toNat = 0; omega, show ((186, S, g, r) : ab_W).2.1 - S = 0 by show S - S = 0; omega]
    have hmw : ∀ z ∈ ab_mw 8, z.2.before ([(2, 0), (0, p0), (0, p1), (2, 185)].map (ab_cv (ab_ad bnd aS))).toArray s = true := fun z hz => hTB _ (ab_mw_ok (k := 8) (by omega) hz).2
    have hini : (Cond.initialized (ab_yn 8).cls).before ([(2, 0), (0, p0), (0, p1), (2, 185)].map (ab_cv (ab_ad bnd aS))).toArray s = true := hmw ((ab_m 8).2.2.2.2.2.2.2.2, .initialized (ab_m 8).1) (by unfold ab_mw; exact List.mem_append_left _ (List.mem_cons_of_mem _ List.mem_cons_self))
    have hinst : (Cond.instanceMethod (ab_yn 8)).before ([(2, 0), (0, p0), (0, p1), (2, 185)].map (ab_cv (ab_ad bnd aS))).toArray s = true := hmw ((ab_m 8).2.2.2.2.2.2.1, .instanceMethod (ab_yn 8)) (List.mem_append_right _ List.mem_cons_self)
    have hsel : (Cond.selects (ab_yn 8).cls (ab_yn 8) (ab_yn 8)).before ([(2, 0), (0, p0), (0, p1), (2, 185)].map (ab_cv (ab_ad bnd aS))).toArray s = true := hmw ((ab_m 8).2.2.2.2.2.2.2.1, .selects (ab_yn 8).cls (ab_yn 8) (ab_yn 8)) (List.mem_append_right _ (List.mem_cons_of_mem _ List.mem_cons_self))
    have hat := hw.1 0 (by omega) (by show (0 : Int) < 186; omega)
    rw [ab_ce_ob (c := 0) rfl (by omega)] at hat
    have hrc := va_recv (D := D) (cl := ab_clsK) (tys := ab_tys cA) hK (ab_P1 hat) (ab_clsK_at (c := 0) (by omega)) (q0 := 0) rfl
    have hrc : ∃ cell : Cell, H[ab_ad bnd aS 0]? = some cell ∧ cell.vm.isStatics = false ∧ s.vm.findClass (ab_yn 8).cls = some cell.cls := hrc
    have hPU : ∀ U : State, U.heap = H → s.WarmedH U.vm → xc_P D cA bnd aS SL xs [(2, 0), (0, p0), (0, p1)] (186, S, g, r) ([(2, 0), (0, p0), (0, p1)].map (ab_cv (ab_ad bnd aS))).toArray U := by
      intro U hU hWm
      refine ⟨⟨rfl, by rw [hU]; exact hw, ⟨ab_NW_warm hWm hN.1, hN.2.warm hWm⟩, va_K.moved hWm.alike hK, va_AO.moved hWm.alike hO, ?_, hSL⟩, ?_, hxV.warm hWm⟩
      · rw [hU]
        exact ab_SF_moved hWm.alike (ab_SF_kept C.2.2.2.2.2.2.2.1 hF hS.2.1)
      · rw [hU]
        exact (hxF.kept hS.2.1).moved hWm.alike
    have hpl := ab_mk_ok (k := 8) (by omega)
    simp only [ab_mk, Bool.and_eq_true, decide_eq_true_eq] at hpl
    have hr := vx_runV (n := 2) (As := [.int (Int32.ofInt p0), .int (Int32.ofInt p1)]) (rest := [.int (Int32.ofInt 0), .ref (ab_ad bnd aS 185)]) (b := ab_ad bnd aS 0) (l := l) (e := e) (below := below) (meth := meth) (H := H) (locs := locs) (cells := 0) (slots := 0)
      (g := F0 m (ab_pc 245 5) ls [.int (Int32.ofInt p1), .int (Int32.ofInt p0), .ref (ab_ad bnd aS 0), .int (Int32.ofInt 0), .ref (ab_ad bnd aS 185)]) (R := xc_rm2) (index := 7) S1 (xc_met8 l hst (av := [(2, 0), (0, p0), (0, p1)]) (show 3 ≤ ab_mxl 8 by decide +kernel) hrun rfl rfl rfl)
      ⟨callB_of 2 hTB (ab_goodIn (k := 8) (by omega)) rfl rfl rfl hini (hTB _ xc_wm8) ⟨hpl.1.1.1.1.1, hpl.1.1.1.1.2, hpl.1.1.1.2⟩ ⟨by decide, by decide +kernel⟩, hinst, hsel⟩
      ⟨xc_blind, hrc, fun U hU hWm => hPU U hU hWm⟩ rfl rfl hl.1 rfl (lv_room (show 2 ≤ 8 by omega)) (show decode (ab_bts 245) (ab_pc 245 5) = .ok (.invokevirtual 7, 3) by decide +kernel) ⟨by decide, by decide⟩
    intro T hT X
    rcases hr T hT X with ⟨v1, st₀, t, T', L, h0, X', hL, e1, e2, hq, stp⟩ | ⟨q, st₀, t, T', L, E, ce, h0, X', hL, e1, e2, hq, hce, hcv, hcl, stp⟩
    · obtain ⟨⟨x, rfl⟩, hv1, hw1, hF1⟩ := hq
      cases hv1
      obtain ⟨-, -, hS1⟩ := vx_keep (A0 := fun q => bnd ≤ q) (A1 := fun q => bnd ≤ q) h0 e1 hS (fun _ _ h => h) (fun _ h => h) hL hF1
      have hw1 : ab_HW D cA bnd aS SL xs (186, S + 6, g1, r1) T'.heap := by rw [e1]; exact hw1
      have kk := Gn_W l (xc_rest (S := S + 6) (g := g1) (r := r1) (p0 := p0) (p1 := p1) (x := x) (T := fun i' L' st' w' => i' = 16 ∧ st' = [(0, 0)] ∧ w' = (186, S + 6, ab_up g1 185 0 (wr x), r1)) ⟨rfl, rfl, rfl⟩)
        (Q := MQ below (xc_Q2 D cA bnd aS SL xs [(0, x)] (186, S + 6, g1, r1)) ([(2, 0), (0, p0), (0, p1), (2, 185)].map (ab_cv (ab_ad bnd aS))).toArray s 1 6 (fun q => bnd ≤ q)) (p := p) (e := e) (below := below) (K0 := 185) (S0 := S) C (by show (185 : Int) ≤ 186; omega) (by show S ≤ S + 6; omega) (fun i' L' st' w' hT => by
          obtain ⟨rfl, rfl, rfl⟩ := hT
          refine ⟨by show (186 - 185 : Int).toNat ≤ 1; omega, by show S + 6 - S ≤ 6; omega, ?_⟩
          intro H2 locs2 ls2 hw2 hS2 hl2
          rw [show (((186, S + 6, ab_up g1 185 0 (wr x), r1) : ab_W).1 - 185).toNat = 1 by show ((186 : Int) - 185).toNat = 1; omega, show ((186, S + 6, ab_up g1 185 0 (wr x), r1) : ab_W).2.1 - S = 6 by show S + 6 - S = 6; omega]
          exact W.iret C.1 C.2.1 (B.returns.trans (by decide +kernel)) (fun t ht hW => ⟨Or.inl ⟨x, rfl, rfl, by rw [ht]; exact hw2⟩, hS2.F ht⟩) hS2.2.2 (by decide +kernel) (hlocks := B.notSynchronized)) T'.heap (locs ++ L) ls hw1 hS1 hl
      rw [show (((186, S + 6, g1, r1) : ab_W).1 - 185).toNat = 1 by show ((186 : Int) - 185).toNat = 1; omega, show ((186, S + 6, g1, r1) : ab_W).2.1 - S = 6 by show S + 6 - S = 6; omega] at kk
      obtain ⟨t2, a1, b1⟩ := kk T' rfl X'
      exact ⟨t2, stp t2 a1, b1⟩
    · obtain ⟨hE, hw1, hF1⟩ := hq
      obtain ⟨-, -, hS1⟩ := vx_keep (A0 := fun q => bnd ≤ q) (A1 := fun q => bnd ≤ q) h0 e1 hS (fun _ _ h => h) (fun _ h => h) hL hF1
      have hw1 : ab_HW D cA bnd aS SL xs (186, S + 6, g1, r1) T'.heap := by rw [e1]; exact hw1
      have hce : T'.heap[q]? = some ce := by rw [e1]; exact hce
      rcases hE with ⟨rfl, rfl⟩ | ⟨rfl, rfl⟩
      · have kk : vx_W p l e xc_rm2 s m ([(2, 0), (0, p0), (0, p1), (2, 185)].map (ab_cv (ab_ad bnd aS))).toArray below meth c T'.heap (locs ++ L) 1 6 (MQ below (xc_Q2 D cA bnd aS SL xs [(9, 1)] (186, S + 6, g1, r1)) ([(2, 0), (0, p0), (0, p1), (2, 185)].map (ab_cv (ab_ad bnd aS))).toArray s 1 6 (fun q => bnd ≤ q)) (F0 m (ab_pc 245 5) ls [.int (Int32.ofInt 0), .ref (ab_ad bnd aS 185)]) q := by
          refine vx_catch (name := xc_E1) hown [] ⟨0, 10, 13, 13⟩ [⟨0, 10, 17, 15⟩] htab (fun z hz => by cases hz) (by decide +kernel) (by decide) (hTB _ xc_wl1) (va_Nw.use rfl (hxV.2.2.2 _ (by simp [xc_bad]))) hce hcv hcl ?_
          refine lv_astore C.1 C.2.1 (i := 4) (by decide +kernel) hl (by decide +kernel) rfl (fun ls2 hl2 => ?_)
          refine lv_iconst (n := 1) (v := 1) C.1 C.2.1 (by decide +kernel) rfl ?_
          exact W.iret C.1 C.2.1 (B.returns.trans (by decide +kernel)) (fun t ht hW => ⟨Or.inr ⟨1, rfl, rfl, by rw [ht]; exact hw1⟩, hS1.F ht⟩) hS1.2.2 (by decide +kernel) (hlocks := B.notSynchronized)
        obtain ⟨t2, a1, b1⟩ := kk T' rfl X'
        exact ⟨t2, stp.trans a1, b1⟩
      · have kk : vx_W p l e xc_rm2 s m ([(2, 0), (0, p0), (0, p1), (2, 185)].map (ab_cv (ab_ad bnd aS))).toArray below meth c T'.heap (locs ++ L) 1 6 (MQ below (xc_Q2 D cA bnd aS SL xs [(9, 2)] (186, S + 6, g1, r1)) ([(2, 0), (0, p0), (0, p1), (2, 185)].map (ab_cv (ab_ad bnd aS))).toArray s 1 6 (fun q => bnd ≤ q)) (F0 m (ab_pc 245 5) ls [.int (Int32.ofInt 0), .ref (ab_ad bnd aS 185)]) q := by
          refine vx_catch (name := xc_E2) hown [⟨0, 10, 13, 13⟩] ⟨0, 10, 17, 15⟩ [] htab (fun z hz => by
            cases List.mem_singleton.mp hz
            exact Or.inr ⟨by decide, xc_E1, hTB _ xc_wl1, hxV.2.2.1⟩) (by decide +kernel) (by decide) (hTB _ xc_wl2) (va_Nw.use rfl (hxV.2.2.2 _ (by simp [xc_bad]))) hce hcv hcl ?_
          refine lv_astore C.1 C.2.1 (i := 4) (by decide +kernel) hl (by decide +kernel) rfl (fun ls2 hl2 => ?_)
          refine lv_iconst (n := 2) (v := 2) C.1 C.2.1 (by decide +kernel) rfl ?_
          exact W.iret C.1 C.2.1 (B.returns.trans (by decide +kernel)) (fun t ht hW => ⟨Or.inr ⟨2, rfl, rfl, by rw [ht]; exact hw1⟩, hS1.F ht⟩) hS1.2.2 (by decide +kernel) (hlocks := B.notSynchronized)
        obtain ⟨t2, a1, b1⟩ := kk T' rfl X'
        exact ⟨t2, stp.trans a1, b1⟩
/-- the law's step 73 -/
theorem ab_p73 {p : Program} {l : Launch} {e : Env} {R : Room} {s : State} {m : MethodId} {args : Array Value} {below : List Frame} {meth : Method} {c : Code} {Q : State → Prop} {D : va_G} {cA : Nat → ClassId} {bnd : Nat} {aS : Int → Nat} {SL : Nat} {xs : Nat → Int32} {K0 : Int} {S n : Nat} {g r g1 r1 : ab_H} {p0 p1 : Int} {v : List ab_V} {L : ab_F}
    (hst : l.stackTraces = false) (C : ab_Cx D cA bnd aS SL xs 246 p R s m args meth c) (hxF : xc_F bnd s s.heap) (hxV : xc_V s) (hRf : 12 ≤ R.frames ∧ 484 ≤ R.locals) (hrun : ab_run n 8 0 (ab_en 8 [(2, 0), (0, p0), (0, p1)]) [] (186, S, g, r) = some (v, (186, S, g1, r1))) (hv : (∃ x, v = [(0, x)]) ∨ ∃ cn, v = [(9, cn)])
    (hk0 : K0 ≤ 186) (hr1 : (186 - K0).toNat + 1 ≤ R.cells) (hr2 : S + 6 ≤ R.slots)
    (k1 : ∀ x, v = [(0, x)] → ab_WW p l e R s m args below meth c Q D cA bnd aS SL xs (K0 - 1) 0 246 307 L [(0, 0)] (186, S + 6, ab_up g1 185 0 (wr x), r1))
    (k2 : ∀ cn, v = [(9, cn)] → ab_WW p l e R s m args below meth c Q D cA bnd aS SL xs (K0 - 1) 0 246 307 L [(0, cn)] (186, S + 6, g1, r1)) :
    ab_WW p l e R s m args below meth c Q D cA bnd aS SL xs K0 0 246 306 L [(2, 185), (0, p1), (0, p0), (2, 0)] (186, S, g, r) := by
  intro H locs ls hw hS hl
  have hown : s.vm.findClass "EventLedgerLaw" = some m.cls := C.2.2.2.1
  have hTB := C.2.2.2.2.1
  have S1 : CallFix p m c (ab_bts 246) (ab_mxl 246) s args ab_TB "EventLedgerLaw" := ⟨C.1, C.2.1, C.2.2.1, hown, hTB⟩
  have hPU : ∀ U : State, U.heap = H → s.WarmedH U.vm → xc_P D cA bnd aS SL xs [(2, 0), (0, p0), (0, p1), (2, 185)] (186, S, g, r) ([(2, 0), (0, p0), (0, p1), (2, 185)].map (ab_cv (ab_ad bnd aS))).toArray U := by
    intro U hU hWm
    refine ⟨⟨rfl, by rw [hU]; exact hw, ⟨ab_NW_warm hWm C.2.2.2.2.2.1.1, C.2.2.2.2.2.1.2.warm hWm⟩, va_K.moved hWm.alike C.2.2.2.2.2.2.2.2.2.2.1, va_AO.moved hWm.alike C.2.2.2.2.2.2.2.2.2.2.2.1, ?_, C.2.2.2.2.2.2.2.2.2.2.2.2.2⟩, ?_, hxV.warm hWm⟩
    · rw [hU]
      exact ab_SF_moved hWm.alike (ab_SF_kept C.2.2.2.2.2.2.2.1 C.2.2.2.2.2.2.2.2.2.2.2.2.1 hS.2.1)
    · rw [hU]
      exact (hxF.kept hS.2.1).moved hWm.alike
  have hT : GoodIn ab_TB (va_wsS "EventLedgerLaw" 52 (ab_yn 245) xc_ws2) := by
    intro z hz
    rcases List.mem_append.mp hz with h | h
    · have h1 : z ∈ ab_TB := by
        simp only [List.mem_cons, List.not_mem_nil, or_false] at h
        rcases h with rfl | rfl | rfl
        · exact xc_wml
        · exact xc_wst
        · exact xc_win
      exact xc_goodTB z h1
    · exact xc_good2 z h
  have hr := vx_runSW (n := 4) (hh := xc_hh) (As := [.ref (ab_ad bnd aS 0), .int (Int32.ofInt p0), .int (Int32.ofInt p1), .ref (ab_ad bnd aS 185)]) (rest := []) (l := l) (e := e) (below := below) (meth := meth) (H := H) (locs := locs) (cells := (186 - K0).toNat) (slots := S) (R := R) (index := 52)
    (g := F0 m (ab_pc 246 306) ls [.ref (ab_ad bnd aS 185), .int (Int32.ofInt p1), .int (Int32.ofInt p0), .ref (ab_ad bnd aS 0)]) S1 (xc_lw l hst hrun)
    (vx_cwSW 4 hTB hT rfl rfl rfl ⟨by decide +kernel, by decide +kernel, by decide +kernel⟩ ⟨by show 11 + 1 ≤ R.frames; omega, by show 8 + (ab_mxl 245 + 11) + 460 ≤ R.locals; rw [show ab_mxl 245 = 5 by decide +kernel]; omega⟩)
    ⟨xc_blind, fun U hU hWm => hPU U hU hWm⟩ rfl rfl hl.1 rfl (lv_room (show 0 ≤ 8 by omega)) (show decode (ab_bts 246) (ab_pc 246 306) = .ok (.invokestatic 52, 3) by decide +kernel) ⟨hr1, hr2⟩
  refine ab_callG hr hS (fun _ h => h) (fun _ _ _ h => h.2) (fun v1 st₀ t H1 locs1 h0 hq hH1 hS1 => ?_)
  obtain ⟨hq, -⟩ := hq
  rcases hq with ⟨x, hx, ho, hw1⟩ | ⟨cn, hx, ho, hw1⟩
  · cases ho
    rw [hH1] at hw1
    have kk := k1 x hx H1 locs1 ls hw1 hS1 hl
    rw [show ab_pc 246 307 = ab_pc 246 306 + 3 by decide +kernel, show (((186, S + 6, ab_up g1 185 0 (wr x), r1) : ab_W).1 - (K0 - 1)).toNat = (186 - K0).toNat + 1 by show ((186 : Int) - (K0 - 1)).toNat = _; omega] at kk
    exact kk
  · cases ho
    rw [hH1] at hw1
    have kk := k2 cn hx H1 locs1 ls hw1 hS1 hl
    rw [show ab_pc 246 307 = ab_pc 246 306 + 3 by decide +kernel, show (((186, S + 6, g1, r1) : ab_W).1 - (K0 - 1)).toNat = (186 - K0).toNat + 1 by show ((186 : Int) - (K0 - 1)).toNat = _; omega] at kk
    exact kk
end
section
/-! THE LAW'S BODY: what a call never touches: what lies below 0, and the law's own long. -/
def pr_op (o : ab_O) : Bool := !Nat.beq o.1 51 && (Nat.blt o.1 38 || Nat.blt 41 o.1 || decide (o.2.2.1 ≠ 103))
theorem pr_C : (List.range 245).all (fun k => (ab_cod k).all pr_op) = true := by decide +kernel
theorem pr_ok {k i : Nat} {o : ab_O} (hk : k < 245) (h : ab_nth (ab_cod k) i = some o) : o.1 ≠ 51 ∧ (o.1 < 38 ∨ 41 < o.1 ∨ o.2.2.1 ≠ 103) := by
  have h1 := List.all_eq_true.mp (List.all_eq_true.mp pr_C k (List.mem_range.mpr hk)) o (ab_nth_mem h)
  simp only [pr_op, Bool.and_eq_true, Bool.or_eq_true, Bool.not_eq_true', decide_eq_true_eq] at h1
  refine ⟨fun e => ?_, ?_⟩
  · rw [e] at h1; exact absurd h1.1 (by decide)
  · rcases h1.2 with (h2 | h2) | h2
    · exact Or.inl (ab_blt h2)
    · exact Or.inr (Or.inl (ab_blt h2))
    · exact Or.inr (Or.inr h2)
def Prt (c : Int) : Prop := c < 0 ∨ c = 185
theorem prt_ne {c a : Int} (hc : Prt c) (h0 : 0 ≤ a) (h1 : (ab_kd a).1 ≠ 103) : c ≠ a := by
  rcases hc with hc | hc
  · omega
  · intro e
    rw [← e, hc] at h1
    exact h1 (by decide +kernel)
theorem prt_new {c K : Int} (hc : Prt c) (h0 : 186 ≤ K) : c ≠ K := by
  unfold Prt at hc
  omega
theorem prt_cpy {g : ab_H} {s sp d dp n c : Int} (h : c ≠ d) : ab_cpy g s sp d dp n c = g c := by
  funext j
  simp [ab_cpy, h]
theorem ab_ex_prt {o : ab_O} {L : ab_F} {st : List ab_V} {w : ab_W} {q : Nat × ab_F × List ab_V × ab_W} (h51 : o.1 ≠ 51) (hput : o.1 < 38 ∨ 41 < o.1 ∨ o.2.2.1 ≠ 103) (hK : 186 ≤ w.1) (h : ab_ex o L st w = some q) : ∀ c : Int, Prt c → q.2.2.2.2.2.1 c = w.2.2.1 c ∧ q.2.2.2.2.2.2 c = w.2.2.2 c := by
  unfold ab_ex at h
  split at h
  all_goals first
    | (cases h; exact fun c _ => ⟨rfl, rfl⟩)
    | (split at h
       · rename_i hg
         cases h
         first
           | exact fun c _ => ⟨rfl, rfl⟩
           | exact fun c hc => ⟨ab_up_ne (prt_ne hc (by omega) (by omega)), rfl⟩
           | exact fun c hc => ⟨rfl, ab_up_ne (prt_ne hc (by omega) (by omega))⟩
           | exact fun c hc => ⟨ab_new_ne (prt_new hc hK), ab_new_ne (prt_new hc hK)⟩
           | exact fun c hc => ⟨prt_cpy (prt_ne hc (by omega) (by omega)), rfl⟩
       · cases h)
    | (split at h
       · cases h
       · cases h
         exact fun c _ => ⟨rfl, rfl⟩)
    | (exfalso; omega)
theorem ab_run_prt : ∀ (n k i : Nat) {L : ab_F} {st : List ab_V} {w : ab_W} {x : List ab_V × ab_W}, k < 245 → 186 ≤ w.1 → ab_run n k i L st w = some x → ∀ c : Int, Prt c → x.2.2.2.1 c = w.2.2.1 c ∧ x.2.2.2.2 c = w.2.2.2 c := by
  intro n
  induction n with
  | zero => intro k i L st w x _ _ h; simp [ab_run] at h
  | succ n ih =>
    intro k i L st w x hk hK h
    rw [ab_run] at h
    split at h
    · cases h; exact fun c _ => ⟨rfl, rfl⟩
    · cases hs : ab_sp (fun k' L' w' => ab_run n k' 0 L' [] w') k i L st w with
      | none => rw [hs] at h; cases h
      | some q =>
        rw [hs] at h
        have hm := ab_sp_mono hs
        have h2 := ih _ _ hk (Int.le_trans hK hm.1) h
        have h3 : ∀ c : Int, Prt c → q.2.2.2.2.2.1 c = w.2.2.1 c ∧ q.2.2.2.2.2.2 c = w.2.2.2 c := by
          unfold ab_sp at hs
          cases ho : ab_nth (ab_cod k) i with
          | none => rw [ho] at hs; cases hs
          | some o =>
            have hpr := pr_ok hk ho
            rw [ho] at hs
            dsimp only at hs
            split at hs
            · split at hs
              · rename_i hc
                simp only [Bool.and_eq_true] at hc
                have hok := hc.1
                simp only [ab_okc, Bool.and_eq_true] at hok
                split at hs
                · cases hs
                · rename_i y hy
                  split at hs
                  · cases hs
                    have h9 := ih _ _ (ab_blt hok.1.1.1.1) hK hy
                    exact h9
                  · cases hs
              · cases hs
            · exact ab_ex_prt hpr.1 hpr.2 hK hs
        exact fun c hc => ⟨(h2 c hc).1.trans (h3 c hc).1, (h2 c hc).2.trans (h3 c hc).2⟩
theorem RI_prt {k : Nat} {av : List ab_V} {S : Nat} {K : Int} {g r : ab_H} {P : Int → ab_H → ab_H → Prop} (hk : k < 245) (hK : 186 ≤ K) (h : ab_RI k av K S g r P) : ab_RI k av K S g r (fun x g1 r1 => P x g1 r1 ∧ ∀ c : Int, Prt c → g1 c = g c ∧ r1 c = r c) := by
  obtain ⟨n, v, w', hr, x, g1, r1, h1, h2, h3⟩ := h
  have h4 := ab_run_prt n k 0 hk (w := (K, S, g, r)) hK hr
  rw [h2] at h4
  exact ⟨n, v, w', hr, x, g1, r1, h1, h2, h3, h4⟩
end
