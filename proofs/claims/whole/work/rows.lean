section
-- ===== PART A: goes FIRST, ahead of the names: the tables' words, and 'selects' of the private methods out of them =====
/-- a private method of a class that the tables say can be made, by its rows of tables_1 -/
def lw_okq (q : MethodName × Nat) : Prop := (q.1.cls ≠ "java/lang/invoke/MethodHandle" ∧ q.1.cls ≠ "java/lang/invoke/VarHandle") ∧ Cond.instantiable q.1.cls q.2 ∈ tables_1 ∧ Cond.privateMethod q.1 ∈ tables_1 ∧ Cond.instanceMethod q.1 ∈ tables_1
theorem lw_p0 : lw_okq (⟨"PorcelainWorks", "refuse", "(I)I"⟩, 12) := ⟨⟨by decide +kernel, by decide +kernel⟩, List.mem_of_getElem? (i := 16) (by decide +kernel), List.mem_of_getElem? (i := 367) (by decide +kernel), List.mem_of_getElem? (i := 368) (by decide +kernel)⟩
theorem lw_p1 : lw_okq (⟨"PorcelainWorks$Clay", "changeTrait", "(III)I"⟩, 5) := ⟨⟨by decide +kernel, by decide +kernel⟩, List.mem_of_getElem? (i := 24) (by decide +kernel), List.mem_of_getElem? (i := 373) (by decide +kernel), List.mem_of_getElem? (i := 374) (by decide +kernel)⟩
theorem lw_p2 : lw_okq (⟨"PorcelainWorks$Clay", "trait", "(II)I"⟩, 5) := ⟨⟨by decide +kernel, by decide +kernel⟩, List.mem_of_getElem? (i := 24) (by decide +kernel), List.mem_of_getElem? (i := 377) (by decide +kernel), List.mem_of_getElem? (i := 378) (by decide +kernel)⟩
theorem lw_p3 : lw_okq (⟨"PorcelainWorks$Clay", "mix", "(III)I"⟩, 5) := ⟨⟨by decide +kernel, by decide +kernel⟩, List.mem_of_getElem? (i := 24) (by decide +kernel), List.mem_of_getElem? (i := 385) (by decide +kernel), List.mem_of_getElem? (i := 386) (by decide +kernel)⟩
theorem lw_p4 : lw_okq (⟨"PorcelainWorks", "pass", "(I)V"⟩, 12) := ⟨⟨by decide +kernel, by decide +kernel⟩, List.mem_of_getElem? (i := 16) (by decide +kernel), List.mem_of_getElem? (i := 393) (by decide +kernel), List.mem_of_getElem? (i := 394) (by decide +kernel)⟩
theorem lw_p5 : lw_okq (⟨"PorcelainWorks$Ledger", "pass", "(II)V"⟩, 4) := ⟨⟨by decide +kernel, by decide +kernel⟩, List.mem_of_getElem? (i := 302) (by decide +kernel), List.mem_of_getElem? (i := 397) (by decide +kernel), List.mem_of_getElem? (i := 398) (by decide +kernel)⟩
theorem lw_p6 : lw_okq (⟨"PorcelainWorks$Ledger", "sumAfter", "(III)I"⟩, 4) := ⟨⟨by decide +kernel, by decide +kernel⟩, List.mem_of_getElem? (i := 302) (by decide +kernel), List.mem_of_getElem? (i := 401) (by decide +kernel), List.mem_of_getElem? (i := 402) (by decide +kernel)⟩
theorem lw_p7 : lw_okq (⟨"PorcelainWorks$Clay", "isRipe", "(II)Z"⟩, 5) := ⟨⟨by decide +kernel, by decide +kernel⟩, List.mem_of_getElem? (i := 24) (by decide +kernel), List.mem_of_getElem? (i := 414) (by decide +kernel), List.mem_of_getElem? (i := 415) (by decide +kernel)⟩
theorem lw_p8 : lw_okq (⟨"PorcelainWorks$Pieces", "shape", "(III)I"⟩, 8) := ⟨⟨by decide +kernel, by decide +kernel⟩, List.mem_of_getElem? (i := 52) (by decide +kernel), List.mem_of_getElem? (i := 418) (by decide +kernel), List.mem_of_getElem? (i := 419) (by decide +kernel)⟩
theorem lw_p9 : lw_okq (⟨"PorcelainWorks$Kiln", "changeTrait", "(III)I"⟩, 8) := ⟨⟨by decide +kernel, by decide +kernel⟩, List.mem_of_getElem? (i := 94) (by decide +kernel), List.mem_of_getElem? (i := 430) (by decide +kernel), List.mem_of_getElem? (i := 431) (by decide +kernel)⟩
theorem lw_p10 : lw_okq (⟨"PorcelainWorks$Kiln", "trait", "(II)I"⟩, 8) := ⟨⟨by decide +kernel, by decide +kernel⟩, List.mem_of_getElem? (i := 94) (by decide +kernel), List.mem_of_getElem? (i := 434) (by decide +kernel), List.mem_of_getElem? (i := 435) (by decide +kernel)⟩
theorem lw_p11 : lw_okq (⟨"PorcelainWorks$Kiln", "tellHour", "(I)I"⟩, 8) := ⟨⟨by decide +kernel, by decide +kernel⟩, List.mem_of_getElem? (i := 94) (by decide +kernel), List.mem_of_getElem? (i := 442) (by decide +kernel), List.mem_of_getElem? (i := 443) (by decide +kernel)⟩
theorem lw_p12 : lw_okq (⟨"PorcelainWorks$Kiln", "forgetHours", "()I"⟩, 8) := ⟨⟨by decide +kernel, by decide +kernel⟩, List.mem_of_getElem? (i := 94) (by decide +kernel), List.mem_of_getElem? (i := 450) (by decide +kernel), List.mem_of_getElem? (i := 451) (by decide +kernel)⟩
theorem lw_p13 : lw_okq (⟨"PorcelainWorks$Kiln", "heatUp", "(I)V"⟩, 8) := ⟨⟨by decide +kernel, by decide +kernel⟩, List.mem_of_getElem? (i := 94) (by decide +kernel), List.mem_of_getElem? (i := 458) (by decide +kernel), List.mem_of_getElem? (i := 459) (by decide +kernel)⟩
theorem lw_p14 : lw_okq (⟨"PorcelainWorks$Kiln", "heatHour", "(I)V"⟩, 8) := ⟨⟨by decide +kernel, by decide +kernel⟩, List.mem_of_getElem? (i := 94) (by decide +kernel), List.mem_of_getElem? (i := 462) (by decide +kernel), List.mem_of_getElem? (i := 463) (by decide +kernel)⟩
theorem lw_p15 : lw_okq (⟨"PorcelainWorks$Kiln", "besideAbove", "(I)I"⟩, 8) := ⟨⟨by decide +kernel, by decide +kernel⟩, List.mem_of_getElem? (i := 94) (by decide +kernel), List.mem_of_getElem? (i := 466) (by decide +kernel), List.mem_of_getElem? (i := 467) (by decide +kernel)⟩
def lw_privs_1 : List (MethodName × Nat) := [(⟨"PorcelainWorks", "refuse", "(I)I"⟩, 12), (⟨"PorcelainWorks$Clay", "changeTrait", "(III)I"⟩, 5), (⟨"PorcelainWorks$Clay", "trait", "(II)I"⟩, 5), (⟨"PorcelainWorks$Clay", "mix", "(III)I"⟩, 5), (⟨"PorcelainWorks", "pass", "(I)V"⟩, 12), (⟨"PorcelainWorks$Ledger", "pass", "(II)V"⟩, 4), (⟨"PorcelainWorks$Ledger", "sumAfter", "(III)I"⟩, 4), (⟨"PorcelainWorks$Clay", "isRipe", "(II)Z"⟩, 5), (⟨"PorcelainWorks$Pieces", "shape", "(III)I"⟩, 8), (⟨"PorcelainWorks$Kiln", "changeTrait", "(III)I"⟩, 8), (⟨"PorcelainWorks$Kiln", "trait", "(II)I"⟩, 8), (⟨"PorcelainWorks$Kiln", "tellHour", "(I)I"⟩, 8), (⟨"PorcelainWorks$Kiln", "forgetHours", "()I"⟩, 8), (⟨"PorcelainWorks$Kiln", "heatUp", "(I)V"⟩, 8), (⟨"PorcelainWorks$Kiln", "heatHour", "(I)V"⟩, 8), (⟨"PorcelainWorks$Kiln", "besideAbove", "(I)I"⟩, 8)]
theorem lw_r1 : ∀ q ∈ lw_privs_1, lw_okq q := List.forall_mem_cons.mpr ⟨lw_p0, List.forall_mem_cons.mpr ⟨lw_p1, List.forall_mem_cons.mpr ⟨lw_p2, List.forall_mem_cons.mpr ⟨lw_p3, List.forall_mem_cons.mpr ⟨lw_p4, List.forall_mem_cons.mpr ⟨lw_p5, List.forall_mem_cons.mpr ⟨lw_p6, List.forall_mem_cons.mpr ⟨lw_p7, List.forall_mem_cons.mpr ⟨lw_p8, List.forall_mem_cons.mpr ⟨lw_p9, List.forall_mem_cons.mpr ⟨lw_p10, List.forall_mem_cons.mpr ⟨lw_p11, List.forall_mem_cons.mpr ⟨lw_p12, List.forall_mem_cons.mpr ⟨lw_p13, List.forall_mem_cons.mpr ⟨lw_p14, List.forall_mem_cons.mpr ⟨lw_p15, fun _ h => absurd h List.not_mem_nil⟩⟩⟩⟩⟩⟩⟩⟩⟩⟩⟩⟩⟩⟩⟩⟩
theorem lw_p16 : lw_okq (⟨"PorcelainWorks", "isLoose", "(I)Z"⟩, 12) := ⟨⟨by decide +kernel, by decide +kernel⟩, List.mem_of_getElem? (i := 16) (by decide +kernel), List.mem_of_getElem? (i := 481) (by decide +kernel), List.mem_of_getElem? (i := 482) (by decide +kernel)⟩
theorem lw_p17 : lw_okq (⟨"PorcelainWorks$Stacking", "isTold", "(I)Z"⟩, 9) := ⟨⟨by decide +kernel, by decide +kernel⟩, List.mem_of_getElem? (i := 132) (by decide +kernel), List.mem_of_getElem? (i := 485) (by decide +kernel), List.mem_of_getElem? (i := 486) (by decide +kernel)⟩
theorem lw_p18 : lw_okq (⟨"PorcelainWorks", "putIn", "(II)V"⟩, 12) := ⟨⟨by decide +kernel, by decide +kernel⟩, List.mem_of_getElem? (i := 16) (by decide +kernel), List.mem_of_getElem? (i := 489) (by decide +kernel), List.mem_of_getElem? (i := 490) (by decide +kernel)⟩
theorem lw_p19 : lw_okq (⟨"PorcelainWorks", "takeOut", "(II)V"⟩, 12) := ⟨⟨by decide +kernel, by decide +kernel⟩, List.mem_of_getElem? (i := 16) (by decide +kernel), List.mem_of_getElem? (i := 497) (by decide +kernel), List.mem_of_getElem? (i := 498) (by decide +kernel)⟩
theorem lw_p20 : lw_okq (⟨"PorcelainWorks$Pieces", "endure", "(IILPorcelainWorks$Clay;)Z"⟩, 8) := ⟨⟨by decide +kernel, by decide +kernel⟩, List.mem_of_getElem? (i := 52) (by decide +kernel), List.mem_of_getElem? (i := 505) (by decide +kernel), List.mem_of_getElem? (i := 506) (by decide +kernel)⟩
theorem lw_p21 : lw_okq (⟨"PorcelainWorks$Clay", "bears", "(II)Z"⟩, 5) := ⟨⟨by decide +kernel, by decide +kernel⟩, List.mem_of_getElem? (i := 24) (by decide +kernel), List.mem_of_getElem? (i := 509) (by decide +kernel), List.mem_of_getElem? (i := 510) (by decide +kernel)⟩
theorem lw_p22 : lw_okq (⟨"PorcelainWorks$Clay", "shrunk", "(II)I"⟩, 5) := ⟨⟨by decide +kernel, by decide +kernel⟩, List.mem_of_getElem? (i := 24) (by decide +kernel), List.mem_of_getElem? (i := 513) (by decide +kernel), List.mem_of_getElem? (i := 514) (by decide +kernel)⟩
theorem lw_p23 : lw_okq (⟨"PorcelainWorks$Clay", "whiteAt", "(II)I"⟩, 5) := ⟨⟨by decide +kernel, by decide +kernel⟩, List.mem_of_getElem? (i := 24) (by decide +kernel), List.mem_of_getElem? (i := 517) (by decide +kernel), List.mem_of_getElem? (i := 518) (by decide +kernel)⟩
theorem lw_p24 : lw_okq (⟨"PorcelainWorks$Kiln", "burnHours", "()V"⟩, 8) := ⟨⟨by decide +kernel, by decide +kernel⟩, List.mem_of_getElem? (i := 94) (by decide +kernel), List.mem_of_getElem? (i := 525) (by decide +kernel), List.mem_of_getElem? (i := 526) (by decide +kernel)⟩
theorem lw_p25 : lw_okq (⟨"PorcelainWorks$Stacking", "tell", "(II)I"⟩, 9) := ⟨⟨by decide +kernel, by decide +kernel⟩, List.mem_of_getElem? (i := 132) (by decide +kernel), List.mem_of_getElem? (i := 533) (by decide +kernel), List.mem_of_getElem? (i := 534) (by decide +kernel)⟩
theorem lw_p26 : lw_okq (⟨"PorcelainWorks", "learnFits", "()V"⟩, 12) := ⟨⟨by decide +kernel, by decide +kernel⟩, List.mem_of_getElem? (i := 16) (by decide +kernel), List.mem_of_getElem? (i := 541) (by decide +kernel), List.mem_of_getElem? (i := 542) (by decide +kernel)⟩
theorem lw_p27 : lw_okq (⟨"PorcelainWorks", "placesThatFire", "(I)I"⟩, 12) := ⟨⟨by decide +kernel, by decide +kernel⟩, List.mem_of_getElem? (i := 16) (by decide +kernel), List.mem_of_getElem? (i := 545) (by decide +kernel), List.mem_of_getElem? (i := 546) (by decide +kernel)⟩
theorem lw_p28 : lw_okq (⟨"PorcelainWorks$Stacking", "greatestWorth", "()I"⟩, 9) := ⟨⟨by decide +kernel, by decide +kernel⟩, List.mem_of_getElem? (i := 132) (by decide +kernel), List.mem_of_getElem? (i := 550) (by decide +kernel), List.mem_of_getElem? (i := 551) (by decide +kernel)⟩
theorem lw_p29 : lw_okq (⟨"PorcelainWorks$Stacking", "worthFrom", "(II)I"⟩, 9) := ⟨⟨by decide +kernel, by decide +kernel⟩, List.mem_of_getElem? (i := 132) (by decide +kernel), List.mem_of_getElem? (i := 554) (by decide +kernel), List.mem_of_getElem? (i := 555) (by decide +kernel)⟩
theorem lw_p30 : lw_okq (⟨"PorcelainWorks$Stacking", "findSeat", "(II)Z"⟩, 9) := ⟨⟨by decide +kernel, by decide +kernel⟩, List.mem_of_getElem? (i := 132) (by decide +kernel), List.mem_of_getElem? (i := 558) (by decide +kernel), List.mem_of_getElem? (i := 559) (by decide +kernel)⟩
theorem lw_p31 : lw_okq (⟨"PorcelainWorks$Stacking", "noteMover", "(II)V"⟩, 9) := ⟨⟨by decide +kernel, by decide +kernel⟩, List.mem_of_getElem? (i := 132) (by decide +kernel), List.mem_of_getElem? (i := 562) (by decide +kernel), List.mem_of_getElem? (i := 563) (by decide +kernel)⟩
def lw_privs_2 : List (MethodName × Nat) := [(⟨"PorcelainWorks", "isLoose", "(I)Z"⟩, 12), (⟨"PorcelainWorks$Stacking", "isTold", "(I)Z"⟩, 9), (⟨"PorcelainWorks", "putIn", "(II)V"⟩, 12), (⟨"PorcelainWorks", "takeOut", "(II)V"⟩, 12), (⟨"PorcelainWorks$Pieces", "endure", "(IILPorcelainWorks$Clay;)Z"⟩, 8), (⟨"PorcelainWorks$Clay", "bears", "(II)Z"⟩, 5), (⟨"PorcelainWorks$Clay", "shrunk", "(II)I"⟩, 5), (⟨"PorcelainWorks$Clay", "whiteAt", "(II)I"⟩, 5), (⟨"PorcelainWorks$Kiln", "burnHours", "()V"⟩, 8), (⟨"PorcelainWorks$Stacking", "tell", "(II)I"⟩, 9), (⟨"PorcelainWorks", "learnFits", "()V"⟩, 12), (⟨"PorcelainWorks", "placesThatFire", "(I)I"⟩, 12), (⟨"PorcelainWorks$Stacking", "greatestWorth", "()I"⟩, 9), (⟨"PorcelainWorks$Stacking", "worthFrom", "(II)I"⟩, 9), (⟨"PorcelainWorks$Stacking", "findSeat", "(II)Z"⟩, 9), (⟨"PorcelainWorks$Stacking", "noteMover", "(II)V"⟩, 9)]
theorem lw_r2 : ∀ q ∈ lw_privs_2, lw_okq q := List.forall_mem_cons.mpr ⟨lw_p16, List.forall_mem_cons.mpr ⟨lw_p17, List.forall_mem_cons.mpr ⟨lw_p18, List.forall_mem_cons.mpr ⟨lw_p19, List.forall_mem_cons.mpr ⟨lw_p20, List.forall_mem_cons.mpr ⟨lw_p21, List.forall_mem_cons.mpr ⟨lw_p22, List.forall_mem_cons.mpr ⟨lw_p23, List.forall_mem_cons.mpr ⟨lw_p24, List.forall_mem_cons.mpr ⟨lw_p25, List.forall_mem_cons.mpr ⟨lw_p26, List.forall_mem_cons.mpr ⟨lw_p27, List.forall_mem_cons.mpr ⟨lw_p28, List.forall_mem_cons.mpr ⟨lw_p29, List.forall_mem_cons.mpr ⟨lw_p30, List.forall_mem_cons.mpr ⟨lw_p31, fun _ h => absurd h List.not_mem_nil⟩⟩⟩⟩⟩⟩⟩⟩⟩⟩⟩⟩⟩⟩⟩⟩
theorem lw_p32 : lw_okq (⟨"PorcelainWorks$Stacking", "moveAlong", "(I)V"⟩, 9) := ⟨⟨by decide +kernel, by decide +kernel⟩, List.mem_of_getElem? (i := 132) (by decide +kernel), List.mem_of_getElem? (i := 570) (by decide +kernel), List.mem_of_getElem? (i := 571) (by decide +kernel)⟩
theorem lw_p33 : lw_okq (⟨"PorcelainWorks$Stacking", "choose", "()V"⟩, 9) := ⟨⟨by decide +kernel, by decide +kernel⟩, List.mem_of_getElem? (i := 132) (by decide +kernel), List.mem_of_getElem? (i := 578) (by decide +kernel), List.mem_of_getElem? (i := 579) (by decide +kernel)⟩
theorem lw_p34 : lw_okq (⟨"PorcelainWorks$Stacking", "leastSpot", "(III)I"⟩, 9) := ⟨⟨by decide +kernel, by decide +kernel⟩, List.mem_of_getElem? (i := 132) (by decide +kernel), List.mem_of_getElem? (i := 583) (by decide +kernel), List.mem_of_getElem? (i := 584) (by decide +kernel)⟩
theorem lw_p35 : lw_okq (⟨"PorcelainWorks$Stacking", "forget", "()V"⟩, 9) := ⟨⟨by decide +kernel, by decide +kernel⟩, List.mem_of_getElem? (i := 132) (by decide +kernel), List.mem_of_getElem? (i := 591) (by decide +kernel), List.mem_of_getElem? (i := 592) (by decide +kernel)⟩
theorem lw_p36 : lw_okq (⟨"PorcelainWorks$Palette", "plan", "(I)I"⟩, 3) := ⟨⟨by decide +kernel, by decide +kernel⟩, List.mem_of_getElem? (i := 170) (by decide +kernel), List.mem_of_getElem? (i := 606) (by decide +kernel), List.mem_of_getElem? (i := 607) (by decide +kernel)⟩
theorem lw_p37 : lw_okq (⟨"PorcelainWorks$Palette", "greatestFrom", "(I)I"⟩, 3) := ⟨⟨by decide +kernel, by decide +kernel⟩, List.mem_of_getElem? (i := 170) (by decide +kernel), List.mem_of_getElem? (i := 610) (by decide +kernel), List.mem_of_getElem? (i := 611) (by decide +kernel)⟩
theorem lw_p38 : lw_okq (⟨"PorcelainWorks$Palette", "stillUnfixed", "(II)I"⟩, 3) := ⟨⟨by decide +kernel, by decide +kernel⟩, List.mem_of_getElem? (i := 170) (by decide +kernel), List.mem_of_getElem? (i := 615) (by decide +kernel), List.mem_of_getElem? (i := 616) (by decide +kernel)⟩
theorem lw_p39 : lw_okq (⟨"PorcelainWorks$Workshop", "changeSkill", "(II)I"⟩, 8) := ⟨⟨by decide +kernel, by decide +kernel⟩, List.mem_of_getElem? (i := 189) (by decide +kernel), List.mem_of_getElem? (i := 627) (by decide +kernel), List.mem_of_getElem? (i := 628) (by decide +kernel)⟩
theorem lw_p40 : lw_okq (⟨"PorcelainWorks$Workshop", "addJob", "(I)I"⟩, 8) := ⟨⟨by decide +kernel, by decide +kernel⟩, List.mem_of_getElem? (i := 189) (by decide +kernel), List.mem_of_getElem? (i := 635) (by decide +kernel), List.mem_of_getElem? (i := 636) (by decide +kernel)⟩
theorem lw_p41 : lw_okq (⟨"PorcelainWorks$Workshop", "share", "()V"⟩, 8) := ⟨⟨by decide +kernel, by decide +kernel⟩, List.mem_of_getElem? (i := 189) (by decide +kernel), List.mem_of_getElem? (i := 643) (by decide +kernel), List.mem_of_getElem? (i := 644) (by decide +kernel)⟩
theorem lw_p42 : lw_okq (⟨"PorcelainWorks$Workshop", "keepTrial", "(I)V"⟩, 8) := ⟨⟨by decide +kernel, by decide +kernel⟩, List.mem_of_getElem? (i := 189) (by decide +kernel), List.mem_of_getElem? (i := 651) (by decide +kernel), List.mem_of_getElem? (i := 652) (by decide +kernel)⟩
theorem lw_p43 : lw_okq (⟨"PorcelainWorks$Workshop", "daysFor", "(II)I"⟩, 8) := ⟨⟨by decide +kernel, by decide +kernel⟩, List.mem_of_getElem? (i := 189) (by decide +kernel), List.mem_of_getElem? (i := 655) (by decide +kernel), List.mem_of_getElem? (i := 656) (by decide +kernel)⟩
theorem lw_p44 : lw_okq (⟨"PorcelainWorks$Matching", "find", "(IIILPorcelainWorks$Pieces;)Z"⟩, 6) := ⟨⟨by decide +kernel, by decide +kernel⟩, List.mem_of_getElem? (i := 223) (by decide +kernel), List.mem_of_getElem? (i := 675) (by decide +kernel), List.mem_of_getElem? (i := 676) (by decide +kernel)⟩
theorem lw_p45 : lw_okq (⟨"PorcelainWorks$Matching", "gather", "(ILPorcelainWorks$Pieces;)V"⟩, 6) := ⟨⟨by decide +kernel, by decide +kernel⟩, List.mem_of_getElem? (i := 223) (by decide +kernel), List.mem_of_getElem? (i := 679) (by decide +kernel), List.mem_of_getElem? (i := 680) (by decide +kernel)⟩
theorem lw_p46 : lw_okq (⟨"PorcelainWorks$Pieces", "isForSale", "(I)Z"⟩, 8) := ⟨⟨by decide +kernel, by decide +kernel⟩, List.mem_of_getElem? (i := 52) (by decide +kernel), List.mem_of_getElem? (i := 683) (by decide +kernel), List.mem_of_getElem? (i := 684) (by decide +kernel)⟩
theorem lw_p47 : lw_okq (⟨"PorcelainWorks$Matching", "insert", "(II)V"⟩, 6) := ⟨⟨by decide +kernel, by decide +kernel⟩, List.mem_of_getElem? (i := 223) (by decide +kernel), List.mem_of_getElem? (i := 687) (by decide +kernel), List.mem_of_getElem? (i := 688) (by decide +kernel)⟩
def lw_privs_3 : List (MethodName × Nat) := [(⟨"PorcelainWorks$Stacking", "moveAlong", "(I)V"⟩, 9), (⟨"PorcelainWorks$Stacking", "choose", "()V"⟩, 9), (⟨"PorcelainWorks$Stacking", "leastSpot", "(III)I"⟩, 9), (⟨"PorcelainWorks$Stacking", "forget", "()V"⟩, 9), (⟨"PorcelainWorks$Palette", "plan", "(I)I"⟩, 3), (⟨"PorcelainWorks$Palette", "greatestFrom", "(I)I"⟩, 3), (⟨"PorcelainWorks$Palette", "stillUnfixed", "(II)I"⟩, 3), (⟨"PorcelainWorks$Workshop", "changeSkill", "(II)I"⟩, 8), (⟨"PorcelainWorks$Workshop", "addJob", "(I)I"⟩, 8), (⟨"PorcelainWorks$Workshop", "share", "()V"⟩, 8), (⟨"PorcelainWorks$Workshop", "keepTrial", "(I)V"⟩, 8), (⟨"PorcelainWorks$Workshop", "daysFor", "(II)I"⟩, 8), (⟨"PorcelainWorks$Matching", "find", "(IIILPorcelainWorks$Pieces;)Z"⟩, 6), (⟨"PorcelainWorks$Matching", "gather", "(ILPorcelainWorks$Pieces;)V"⟩, 6), (⟨"PorcelainWorks$Pieces", "isForSale", "(I)Z"⟩, 8), (⟨"PorcelainWorks$Matching", "insert", "(II)V"⟩, 6)]
theorem lw_r3 : ∀ q ∈ lw_privs_3, lw_okq q := List.forall_mem_cons.mpr ⟨lw_p32, List.forall_mem_cons.mpr ⟨lw_p33, List.forall_mem_cons.mpr ⟨lw_p34, List.forall_mem_cons.mpr ⟨lw_p35, List.forall_mem_cons.mpr ⟨lw_p36, List.forall_mem_cons.mpr ⟨lw_p37, List.forall_mem_cons.mpr ⟨lw_p38, List.forall_mem_cons.mpr ⟨lw_p39, List.forall_mem_cons.mpr ⟨lw_p40, List.forall_mem_cons.mpr ⟨lw_p41, List.forall_mem_cons.mpr ⟨lw_p42, List.forall_mem_cons.mpr ⟨lw_p43, List.forall_mem_cons.mpr ⟨lw_p44, List.forall_mem_cons.mpr ⟨lw_p45, List.forall_mem_cons.mpr ⟨lw_p46, List.forall_mem_cons.mpr ⟨lw_p47, fun _ h => absurd h List.not_mem_nil⟩⟩⟩⟩⟩⟩⟩⟩⟩⟩⟩⟩⟩⟩⟩⟩
theorem lw_p48 : lw_okq (⟨"PorcelainWorks$Matching", "take", "(I)V"⟩, 6) := ⟨⟨by decide +kernel, by decide +kernel⟩, List.mem_of_getElem? (i := 223) (by decide +kernel), List.mem_of_getElem? (i := 691) (by decide +kernel), List.mem_of_getElem? (i := 692) (by decide +kernel)⟩
theorem lw_p49 : lw_okq (⟨"PorcelainWorks$Matching", "lacking", "()I"⟩, 6) := ⟨⟨by decide +kernel, by decide +kernel⟩, List.mem_of_getElem? (i := 223) (by decide +kernel), List.mem_of_getElem? (i := 695) (by decide +kernel), List.mem_of_getElem? (i := 696) (by decide +kernel)⟩
theorem lw_p50 : lw_okq (⟨"PorcelainWorks$Matching", "sortByNumber", "()V"⟩, 6) := ⟨⟨by decide +kernel, by decide +kernel⟩, List.mem_of_getElem? (i := 223) (by decide +kernel), List.mem_of_getElem? (i := 703) (by decide +kernel), List.mem_of_getElem? (i := 704) (by decide +kernel)⟩
theorem lw_p51 : lw_okq (⟨"PorcelainWorks$Odds", "ofWhole", "(III)I"⟩, 1) := ⟨⟨by decide +kernel, by decide +kernel⟩, List.mem_of_getElem? (i := 250) (by decide +kernel), List.mem_of_getElem? (i := 715) (by decide +kernel), List.mem_of_getElem? (i := 716) (by decide +kernel)⟩
theorem lw_p52 : lw_okq (⟨"PorcelainWorks$Odds", "begin", "()V"⟩, 1) := ⟨⟨by decide +kernel, by decide +kernel⟩, List.mem_of_getElem? (i := 250) (by decide +kernel), List.mem_of_getElem? (i := 719) (by decide +kernel), List.mem_of_getElem? (i := 720) (by decide +kernel)⟩
theorem lw_p53 : lw_okq (⟨"PorcelainWorks$Odds", "makeOneMore", "(II)V"⟩, 1) := ⟨⟨by decide +kernel, by decide +kernel⟩, List.mem_of_getElem? (i := 250) (by decide +kernel), List.mem_of_getElem? (i := 724) (by decide +kernel), List.mem_of_getElem? (i := 725) (by decide +kernel)⟩
theorem lw_p54 : lw_okq (⟨"PorcelainWorks$Odds", "orMore", "(II)I"⟩, 1) := ⟨⟨by decide +kernel, by decide +kernel⟩, List.mem_of_getElem? (i := 250) (by decide +kernel), List.mem_of_getElem? (i := 728) (by decide +kernel), List.mem_of_getElem? (i := 729) (by decide +kernel)⟩
theorem lw_p55 : lw_okq (⟨"PorcelainWorks$Odds", "fewestFor", "(III)I"⟩, 1) := ⟨⟨by decide +kernel, by decide +kernel⟩, List.mem_of_getElem? (i := 250) (by decide +kernel), List.mem_of_getElem? (i := 737) (by decide +kernel), List.mem_of_getElem? (i := 738) (by decide +kernel)⟩
theorem lw_p56 : lw_okq (⟨"PorcelainWorks$Secret", "tellSight", "(III)Z"⟩, 11) := ⟨⟨by decide +kernel, by decide +kernel⟩, List.mem_of_getElem? (i := 260) (by decide +kernel), List.mem_of_getElem? (i := 745) (by decide +kernel), List.mem_of_getElem? (i := 746) (by decide +kernel)⟩
theorem lw_p57 : lw_okq (⟨"PorcelainWorks$Secret", "talkedOn", "(III)Z"⟩, 11) := ⟨⟨by decide +kernel, by decide +kernel⟩, List.mem_of_getElem? (i := 260) (by decide +kernel), List.mem_of_getElem? (i := 753) (by decide +kernel), List.mem_of_getElem? (i := 754) (by decide +kernel)⟩
theorem lw_p58 : lw_okq (⟨"PorcelainWorks$Secret", "tellTalk", "(III)V"⟩, 11) := ⟨⟨by decide +kernel, by decide +kernel⟩, List.mem_of_getElem? (i := 260) (by decide +kernel), List.mem_of_getElem? (i := 757) (by decide +kernel), List.mem_of_getElem? (i := 758) (by decide +kernel)⟩
theorem lw_p59 : lw_okq (⟨"PorcelainWorks$Secret", "retell", "(I)V"⟩, 11) := ⟨⟨by decide +kernel, by decide +kernel⟩, List.mem_of_getElem? (i := 260) (by decide +kernel), List.mem_of_getElem? (i := 765) (by decide +kernel), List.mem_of_getElem? (i := 766) (by decide +kernel)⟩
theorem lw_p60 : lw_okq (⟨"PorcelainWorks$Secret", "seeTill", "(II)I"⟩, 11) := ⟨⟨by decide +kernel, by decide +kernel⟩, List.mem_of_getElem? (i := 260) (by decide +kernel), List.mem_of_getElem? (i := 769) (by decide +kernel), List.mem_of_getElem? (i := 770) (by decide +kernel)⟩
theorem lw_p61 : lw_okq (⟨"PorcelainWorks$Secret", "noteJoined", "(I)V"⟩, 11) := ⟨⟨by decide +kernel, by decide +kernel⟩, List.mem_of_getElem? (i := 260) (by decide +kernel), List.mem_of_getElem? (i := 773) (by decide +kernel), List.mem_of_getElem? (i := 774) (by decide +kernel)⟩
theorem lw_p62 : lw_okq (⟨"PorcelainWorks$Secret", "talkAllDay", "(II)I"⟩, 11) := ⟨⟨by decide +kernel, by decide +kernel⟩, List.mem_of_getElem? (i := 260) (by decide +kernel), List.mem_of_getElem? (i := 777) (by decide +kernel), List.mem_of_getElem? (i := 778) (by decide +kernel)⟩
theorem lw_p63 : lw_okq (⟨"PorcelainWorks$Secret", "exchange", "(II)V"⟩, 11) := ⟨⟨by decide +kernel, by decide +kernel⟩, List.mem_of_getElem? (i := 260) (by decide +kernel), List.mem_of_getElem? (i := 781) (by decide +kernel), List.mem_of_getElem? (i := 782) (by decide +kernel)⟩
def lw_privs_4 : List (MethodName × Nat) := [(⟨"PorcelainWorks$Matching", "take", "(I)V"⟩, 6), (⟨"PorcelainWorks$Matching", "lacking", "()I"⟩, 6), (⟨"PorcelainWorks$Matching", "sortByNumber", "()V"⟩, 6), (⟨"PorcelainWorks$Odds", "ofWhole", "(III)I"⟩, 1), (⟨"PorcelainWorks$Odds", "begin", "()V"⟩, 1), (⟨"PorcelainWorks$Odds", "makeOneMore", "(II)V"⟩, 1), (⟨"PorcelainWorks$Odds", "orMore", "(II)I"⟩, 1), (⟨"PorcelainWorks$Odds", "fewestFor", "(III)I"⟩, 1), (⟨"PorcelainWorks$Secret", "tellSight", "(III)Z"⟩, 11), (⟨"PorcelainWorks$Secret", "talkedOn", "(III)Z"⟩, 11), (⟨"PorcelainWorks$Secret", "tellTalk", "(III)V"⟩, 11), (⟨"PorcelainWorks$Secret", "retell", "(I)V"⟩, 11), (⟨"PorcelainWorks$Secret", "seeTill", "(II)I"⟩, 11), (⟨"PorcelainWorks$Secret", "noteJoined", "(I)V"⟩, 11), (⟨"PorcelainWorks$Secret", "talkAllDay", "(II)I"⟩, 11), (⟨"PorcelainWorks$Secret", "exchange", "(II)V"⟩, 11)]
theorem lw_r4 : ∀ q ∈ lw_privs_4, lw_okq q := List.forall_mem_cons.mpr ⟨lw_p48, List.forall_mem_cons.mpr ⟨lw_p49, List.forall_mem_cons.mpr ⟨lw_p50, List.forall_mem_cons.mpr ⟨lw_p51, List.forall_mem_cons.mpr ⟨lw_p52, List.forall_mem_cons.mpr ⟨lw_p53, List.forall_mem_cons.mpr ⟨lw_p54, List.forall_mem_cons.mpr ⟨lw_p55, List.forall_mem_cons.mpr ⟨lw_p56, List.forall_mem_cons.mpr ⟨lw_p57, List.forall_mem_cons.mpr ⟨lw_p58, List.forall_mem_cons.mpr ⟨lw_p59, List.forall_mem_cons.mpr ⟨lw_p60, List.forall_mem_cons.mpr ⟨lw_p61, List.forall_mem_cons.mpr ⟨lw_p62, List.forall_mem_cons.mpr ⟨lw_p63, fun _ h => absurd h List.not_mem_nil⟩⟩⟩⟩⟩⟩⟩⟩⟩⟩⟩⟩⟩⟩⟩⟩
theorem lw_p64 : lw_okq (⟨"PorcelainWorks$Secret", "knownBy", "(I)I"⟩, 11) := ⟨⟨by decide +kernel, by decide +kernel⟩, List.mem_of_getElem? (i := 260) (by decide +kernel), List.mem_of_getElem? (i := 785) (by decide +kernel), List.mem_of_getElem? (i := 786) (by decide +kernel)⟩
theorem lw_p65 : lw_okq (⟨"PorcelainWorks$Secret", "firstLeak", "()I"⟩, 11) := ⟨⟨by decide +kernel, by decide +kernel⟩, List.mem_of_getElem? (i := 260) (by decide +kernel), List.mem_of_getElem? (i := 797) (by decide +kernel), List.mem_of_getElem? (i := 798) (by decide +kernel)⟩
theorem lw_p66 : lw_okq (⟨"PorcelainWorks$Ledger", "lend", "(III)I"⟩, 4) := ⟨⟨by decide +kernel, by decide +kernel⟩, List.mem_of_getElem? (i := 302) (by decide +kernel), List.mem_of_getElem? (i := 807) (by decide +kernel), List.mem_of_getElem? (i := 808) (by decide +kernel)⟩
theorem lw_p67 : lw_okq (⟨"PorcelainWorks$Pieces", "inState", "(I)I"⟩, 8) := ⟨⟨by decide +kernel, by decide +kernel⟩, List.mem_of_getElem? (i := 52) (by decide +kernel), List.mem_of_getElem? (i := 828) (by decide +kernel), List.mem_of_getElem? (i := 829) (by decide +kernel)⟩
theorem lw_p68 : lw_okq (⟨"PorcelainWorksModel", "refuse", "(I)I"⟩, 54) := ⟨⟨by decide +kernel, by decide +kernel⟩, List.mem_of_getElem? (i := 832) (by decide +kernel), List.mem_of_getElem? (i := 1013) (by decide +kernel), List.mem_of_getElem? (i := 1014) (by decide +kernel)⟩
theorem lw_p69 : lw_okq (⟨"PorcelainWorksModel", "goes", "(I)V"⟩, 54) := ⟨⟨by decide +kernel, by decide +kernel⟩, List.mem_of_getElem? (i := 832) (by decide +kernel), List.mem_of_getElem? (i := 1025) (by decide +kernel), List.mem_of_getElem? (i := 1026) (by decide +kernel)⟩
theorem lw_p70 : lw_okq (⟨"PorcelainWorksModel", "grown", "(II)I"⟩, 54) := ⟨⟨by decide +kernel, by decide +kernel⟩, List.mem_of_getElem? (i := 832) (by decide +kernel), List.mem_of_getElem? (i := 1029) (by decide +kernel), List.mem_of_getElem? (i := 1030) (by decide +kernel)⟩
theorem lw_p71 : lw_okq (⟨"PorcelainWorksModel", "burns", "(I)V"⟩, 54) := ⟨⟨by decide +kernel, by decide +kernel⟩, List.mem_of_getElem? (i := 832) (by decide +kernel), List.mem_of_getElem? (i := 1056) (by decide +kernel), List.mem_of_getElem? (i := 1057) (by decide +kernel)⟩
theorem lw_p72 : lw_okq (⟨"PorcelainWorksModel", "isPiece", "(I)Z"⟩, 54) := ⟨⟨by decide +kernel, by decide +kernel⟩, List.mem_of_getElem? (i := 832) (by decide +kernel), List.mem_of_getElem? (i := 1069) (by decide +kernel), List.mem_of_getElem? (i := 1070) (by decide +kernel)⟩
theorem lw_p73 : lw_okq (⟨"PorcelainWorksModel", "isWanted", "(I)Z"⟩, 54) := ⟨⟨by decide +kernel, by decide +kernel⟩, List.mem_of_getElem? (i := 832) (by decide +kernel), List.mem_of_getElem? (i := 1073) (by decide +kernel), List.mem_of_getElem? (i := 1074) (by decide +kernel)⟩
theorem lw_p74 : lw_okq (⟨"PorcelainWorksModel", "takes", "(I)I"⟩, 54) := ⟨⟨by decide +kernel, by decide +kernel⟩, List.mem_of_getElem? (i := 832) (by decide +kernel), List.mem_of_getElem? (i := 1081) (by decide +kernel), List.mem_of_getElem? (i := 1082) (by decide +kernel)⟩
theorem lw_p75 : lw_okq (⟨"PorcelainWorksModel", "bears", "(II)Z"⟩, 54) := ⟨⟨by decide +kernel, by decide +kernel⟩, List.mem_of_getElem? (i := 832) (by decide +kernel), List.mem_of_getElem? (i := 1089) (by decide +kernel), List.mem_of_getElem? (i := 1090) (by decide +kernel)⟩
theorem lw_p76 : lw_okq (⟨"PorcelainWorksModel", "pasteOf", "(II)I"⟩, 54) := ⟨⟨by decide +kernel, by decide +kernel⟩, List.mem_of_getElem? (i := 832) (by decide +kernel), List.mem_of_getElem? (i := 1093) (by decide +kernel), List.mem_of_getElem? (i := 1094) (by decide +kernel)⟩
theorem lw_p77 : lw_okq (⟨"PorcelainWorksModel", "finds", "()I"⟩, 54) := ⟨⟨by decide +kernel, by decide +kernel⟩, List.mem_of_getElem? (i := 832) (by decide +kernel), List.mem_of_getElem? (i := 1106) (by decide +kernel), List.mem_of_getElem? (i := 1107) (by decide +kernel)⟩
theorem lw_p78 : lw_okq (⟨"PorcelainWorksModel", "mayLie", "(III)Z"⟩, 54) := ⟨⟨by decide +kernel, by decide +kernel⟩, List.mem_of_getElem? (i := 832) (by decide +kernel), List.mem_of_getElem? (i := 1110) (by decide +kernel), List.mem_of_getElem? (i := 1111) (by decide +kernel)⟩
theorem lw_p79 : lw_okq (⟨"PorcelainWorksModel", "firesOf", "(I)I"⟩, 54) := ⟨⟨by decide +kernel, by decide +kernel⟩, List.mem_of_getElem? (i := 832) (by decide +kernel), List.mem_of_getElem? (i := 1130) (by decide +kernel), List.mem_of_getElem? (i := 1131) (by decide +kernel)⟩
def lw_privs_5 : List (MethodName × Nat) := [(⟨"PorcelainWorks$Secret", "knownBy", "(I)I"⟩, 11), (⟨"PorcelainWorks$Secret", "firstLeak", "()I"⟩, 11), (⟨"PorcelainWorks$Ledger", "lend", "(III)I"⟩, 4), (⟨"PorcelainWorks$Pieces", "inState", "(I)I"⟩, 8), (⟨"PorcelainWorksModel", "refuse", "(I)I"⟩, 54), (⟨"PorcelainWorksModel", "goes", "(I)V"⟩, 54), (⟨"PorcelainWorksModel", "grown", "(II)I"⟩, 54), (⟨"PorcelainWorksModel", "burns", "(I)V"⟩, 54), (⟨"PorcelainWorksModel", "isPiece", "(I)Z"⟩, 54), (⟨"PorcelainWorksModel", "isWanted", "(I)Z"⟩, 54), (⟨"PorcelainWorksModel", "takes", "(I)I"⟩, 54), (⟨"PorcelainWorksModel", "bears", "(II)Z"⟩, 54), (⟨"PorcelainWorksModel", "pasteOf", "(II)I"⟩, 54), (⟨"PorcelainWorksModel", "finds", "()I"⟩, 54), (⟨"PorcelainWorksModel", "mayLie", "(III)Z"⟩, 54), (⟨"PorcelainWorksModel", "firesOf", "(I)I"⟩, 54)]
theorem lw_r5 : ∀ q ∈ lw_privs_5, lw_okq q := List.forall_mem_cons.mpr ⟨lw_p64, List.forall_mem_cons.mpr ⟨lw_p65, List.forall_mem_cons.mpr ⟨lw_p66, List.forall_mem_cons.mpr ⟨lw_p67, List.forall_mem_cons.mpr ⟨lw_p68, List.forall_mem_cons.mpr ⟨lw_p69, List.forall_mem_cons.mpr ⟨lw_p70, List.forall_mem_cons.mpr ⟨lw_p71, List.forall_mem_cons.mpr ⟨lw_p72, List.forall_mem_cons.mpr ⟨lw_p73, List.forall_mem_cons.mpr ⟨lw_p74, List.forall_mem_cons.mpr ⟨lw_p75, List.forall_mem_cons.mpr ⟨lw_p76, List.forall_mem_cons.mpr ⟨lw_p77, List.forall_mem_cons.mpr ⟨lw_p78, List.forall_mem_cons.mpr ⟨lw_p79, fun _ h => absurd h List.not_mem_nil⟩⟩⟩⟩⟩⟩⟩⟩⟩⟩⟩⟩⟩⟩⟩⟩
theorem lw_p80 : lw_okq (⟨"PorcelainWorksModel", "leastOf", "()I"⟩, 54) := ⟨⟨by decide +kernel, by decide +kernel⟩, List.mem_of_getElem? (i := 832) (by decide +kernel), List.mem_of_getElem? (i := 1150) (by decide +kernel), List.mem_of_getElem? (i := 1151) (by decide +kernel)⟩
theorem lw_p81 : lw_okq (⟨"PorcelainWorksModel", "wrongService", "(III)I"⟩, 54) := ⟨⟨by decide +kernel, by decide +kernel⟩, List.mem_of_getElem? (i := 832) (by decide +kernel), List.mem_of_getElem? (i := 1166) (by decide +kernel), List.mem_of_getElem? (i := 1167) (by decide +kernel)⟩
theorem lw_p82 : lw_okq (⟨"PorcelainWorksModel", "matches", "(III)I"⟩, 54) := ⟨⟨by decide +kernel, by decide +kernel⟩, List.mem_of_getElem? (i := 832) (by decide +kernel), List.mem_of_getElem? (i := 1170) (by decide +kernel), List.mem_of_getElem? (i := 1171) (by decide +kernel)⟩
theorem lw_p83 : lw_okq (⟨"PorcelainWorksModel", "isWhole", "(II)Z"⟩, 54) := ⟨⟨by decide +kernel, by decide +kernel⟩, List.mem_of_getElem? (i := 832) (by decide +kernel), List.mem_of_getElem? (i := 1174) (by decide +kernel), List.mem_of_getElem? (i := 1175) (by decide +kernel)⟩
theorem lw_p84 : lw_okq (⟨"PorcelainWorksModel", "begins", "()V"⟩, 54) := ⟨⟨by decide +kernel, by decide +kernel⟩, List.mem_of_getElem? (i := 832) (by decide +kernel), List.mem_of_getElem? (i := 1190) (by decide +kernel), List.mem_of_getElem? (i := 1191) (by decide +kernel)⟩
theorem lw_p85 : lw_okq (⟨"PorcelainWorksModel", "oneMore", "(I)V"⟩, 54) := ⟨⟨by decide +kernel, by decide +kernel⟩, List.mem_of_getElem? (i := 832) (by decide +kernel), List.mem_of_getElem? (i := 1195) (by decide +kernel), List.mem_of_getElem? (i := 1196) (by decide +kernel)⟩
theorem lw_p86 : lw_okq (⟨"PorcelainWorksModel", "orMore", "(I)I"⟩, 54) := ⟨⟨by decide +kernel, by decide +kernel⟩, List.mem_of_getElem? (i := 832) (by decide +kernel), List.mem_of_getElem? (i := 1200) (by decide +kernel), List.mem_of_getElem? (i := 1201) (by decide +kernel)⟩
theorem lw_p87 : lw_okq (⟨"PorcelainWorksModel", "tells", "(I)I"⟩, 54) := ⟨⟨by decide +kernel, by decide +kernel⟩, List.mem_of_getElem? (i := 832) (by decide +kernel), List.mem_of_getElem? (i := 1220) (by decide +kernel), List.mem_of_getElem? (i := 1221) (by decide +kernel)⟩
theorem lw_p88 : lw_okq (⟨"PorcelainWorksModel", "nextDay", "(I)I"⟩, 54) := ⟨⟨by decide +kernel, by decide +kernel⟩, List.mem_of_getElem? (i := 832) (by decide +kernel), List.mem_of_getElem? (i := 1224) (by decide +kernel), List.mem_of_getElem? (i := 1225) (by decide +kernel)⟩
def lw_privs_6 : List (MethodName × Nat) := [(⟨"PorcelainWorksModel", "leastOf", "()I"⟩, 54), (⟨"PorcelainWorksModel", "wrongService", "(III)I"⟩, 54), (⟨"PorcelainWorksModel", "matches", "(III)I"⟩, 54), (⟨"PorcelainWorksModel", "isWhole", "(II)Z"⟩, 54), (⟨"PorcelainWorksModel", "begins", "()V"⟩, 54), (⟨"PorcelainWorksModel", "oneMore", "(I)V"⟩, 54), (⟨"PorcelainWorksModel", "orMore", "(I)I"⟩, 54), (⟨"PorcelainWorksModel", "tells", "(I)I"⟩, 54), (⟨"PorcelainWorksModel", "nextDay", "(I)I"⟩, 54)]
theorem lw_r6 : ∀ q ∈ lw_privs_6, lw_okq q := List.forall_mem_cons.mpr ⟨lw_p80, List.forall_mem_cons.mpr ⟨lw_p81, List.forall_mem_cons.mpr ⟨lw_p82, List.forall_mem_cons.mpr ⟨lw_p83, List.forall_mem_cons.mpr ⟨lw_p84, List.forall_mem_cons.mpr ⟨lw_p85, List.forall_mem_cons.mpr ⟨lw_p86, List.forall_mem_cons.mpr ⟨lw_p87, List.forall_mem_cons.mpr ⟨lw_p88, fun _ h => absurd h List.not_mem_nil⟩⟩⟩⟩⟩⟩⟩⟩⟩
def lw_privs : List (MethodName × Nat) := lw_privs_1 ++ (lw_privs_2 ++ (lw_privs_3 ++ (lw_privs_4 ++ (lw_privs_5 ++ (lw_privs_6)))))
def lw_tbl : List Cond := k2_sels lw_privs ++ tables_1
theorem lw_privs_ok : ∀ q ∈ lw_privs, lw_okq q := by
  show ∀ q ∈ lw_privs_1 ++ (lw_privs_2 ++ (lw_privs_3 ++ (lw_privs_4 ++ (lw_privs_5 ++ (lw_privs_6))))), lw_okq q
  exact List.forall_mem_append.mpr ⟨lw_r1, List.forall_mem_append.mpr ⟨lw_r2, List.forall_mem_append.mpr ⟨lw_r3, List.forall_mem_append.mpr ⟨lw_r4, List.forall_mem_append.mpr ⟨lw_r5, lw_r6⟩⟩⟩⟩⟩
end
section
/-! ===== BEGIN printed: names, fields, word lists, decode rows ===== -/
def RX0 : String := "PorcelainWorks$Clay"
def TX0 : u_T := fun k => match k with
  | 0 => ("PorcelainWorks$Clay", "traits", "[I", true)
  | 1 => ("PorcelainWorks$Clay", "batchPaste", "[I", true)
  | 2 => ("PorcelainWorks$Clay", "batchPounds", "[I", true)
  | 3 => ("PorcelainWorks$Clay", "batchDay", "[I", true)
  | _ => ("PorcelainWorks$Clay", "batches", "I", false)
def tyX0 : Nat → FieldType := fun k => match k with
  | 0 => .array .int
  | 1 => .array .int
  | 2 => .array .int
  | 3 => .array .int
  | _ => .int
abbrev wsX00 : List Cond := u_ws RX0 TX0 5
theorem nmX0 : ∀ a, a < 5 → ∀ b, b < 5 → a ≠ b → (TX0 a).2.1 ≠ (TX0 b).2.1 := by decide +kernel
theorem tyX0_ok : ∀ k, k < 5 → parseFieldDescriptor (TX0 k).2.2.1 = some (tyX0 k) := by decide +kernel
abbrev cX0_init : ByteArray := prog_2_method_1_code
def yX0_init : MethodName := ⟨RX0, "<init>", "()V"⟩
abbrev cX0_trait : ByteArray := prog_2_method_2_code
def yX0_trait : MethodName := ⟨RX0, "trait", "(II)I"⟩
abbrev cX0_changeTrait : ByteArray := prog_2_method_3_code
def yX0_changeTrait : MethodName := ⟨RX0, "changeTrait", "(III)I"⟩
abbrev cX0_mix : ByteArray := prog_2_method_4_code
def yX0_mix : MethodName := ⟨RX0, "mix", "(III)I"⟩
abbrev cX0_isRipe : ByteArray := prog_2_method_5_code
def yX0_isRipe : MethodName := ⟨RX0, "isRipe", "(II)Z"⟩
abbrev cX0_bears : ByteArray := prog_2_method_6_code
def yX0_bears : MethodName := ⟨RX0, "bears", "(II)Z"⟩
abbrev cX0_shrunk : ByteArray := prog_2_method_7_code
def yX0_shrunk : MethodName := ⟨RX0, "shrunk", "(II)I"⟩
abbrev cX0_whiteAt : ByteArray := prog_2_method_8_code
def yX0_whiteAt : MethodName := ⟨RX0, "whiteAt", "(II)I"⟩
def RX1 : String := "PorcelainWorks$Kiln"
def TX1 : u_T := fun k => match k with
  | 0 => ("PorcelainWorks$Kiln", "traits", "[I", true)
  | 1 => ("PorcelainWorks$Kiln", "holds", "[I", true)
  | 2 => ("PorcelainWorks$Kiln", "heats", "[I", true)
  | 3 => ("PorcelainWorks$Kiln", "raised", "[I", true)
  | 4 => ("PorcelainWorks$Kiln", "peaks", "[I", true)
  | 5 => ("PorcelainWorks$Kiln", "woods", "[I", true)
  | 6 => ("PorcelainWorks$Kiln", "hours", "I", false)
  | _ => ("PorcelainWorks$Kiln", "burned", "I", false)
def tyX1 : Nat → FieldType := fun k => match k with
  | 0 => .array .int
  | 1 => .array .int
  | 2 => .array .int
  | 3 => .array .int
  | 4 => .array .int
  | 5 => .array .int
  | 6 => .int
  | _ => .int
abbrev wsX10 : List Cond := u_ws RX1 TX1 8
theorem nmX1 : ∀ a, a < 8 → ∀ b, b < 8 → a ≠ b → (TX1 a).2.1 ≠ (TX1 b).2.1 := by decide +kernel
theorem tyX1_ok : ∀ k, k < 8 → parseFieldDescriptor (TX1 k).2.2.1 = some (tyX1 k) := by decide +kernel
abbrev cX1_init : ByteArray := prog_3_method_1_code
def yX1_init : MethodName := ⟨RX1, "<init>", "()V"⟩
abbrev cX1_trait : ByteArray := prog_3_method_2_code
def yX1_trait : MethodName := ⟨RX1, "trait", "(II)I"⟩
abbrev cX1_changeTrait : ByteArray := prog_3_method_3_code
def yX1_changeTrait : MethodName := ⟨RX1, "changeTrait", "(III)I"⟩
abbrev cX1_tellHour : ByteArray := prog_3_method_4_code
def yX1_tellHour : MethodName := ⟨RX1, "tellHour", "(I)I"⟩
abbrev cX1_forgetHours : ByteArray := prog_3_method_5_code
def yX1_forgetHours : MethodName := ⟨RX1, "forgetHours", "()I"⟩
abbrev cX1_burnHours : ByteArray := prog_3_method_6_code
def yX1_burnHours : MethodName := ⟨RX1, "burnHours", "()V"⟩
abbrev cX1_heatUp : ByteArray := prog_3_method_7_code
def yX1_heatUp : MethodName := ⟨RX1, "heatUp", "(I)V"⟩
abbrev cX1_heatHour : ByteArray := prog_3_method_8_code
def yX1_heatHour : MethodName := ⟨RX1, "heatHour", "(I)V"⟩
abbrev cX1_besideAbove : ByteArray := prog_3_method_9_code
def yX1_besideAbove : MethodName := ⟨RX1, "besideAbove", "(I)I"⟩
def RX2 : String := "PorcelainWorks$Ledger"
def TX2 : u_T := fun k => match k with
  | 0 => ("PorcelainWorks$Ledger", "sums", "[I", true)
  | 1 => ("PorcelainWorks$Ledger", "rates", "[I", true)
  | 2 => ("PorcelainWorks$Ledger", "madeOn", "[I", true)
  | _ => ("PorcelainWorks$Ledger", "debts", "I", false)
def tyX2 : Nat → FieldType := fun k => match k with
  | 0 => .array .int
  | 1 => .array .int
  | 2 => .array .int
  | _ => .int
abbrev wsX20 : List Cond := u_ws RX2 TX2 4
theorem nmX2 : ∀ a, a < 4 → ∀ b, b < 4 → a ≠ b → (TX2 a).2.1 ≠ (TX2 b).2.1 := by decide +kernel
theorem tyX2_ok : ∀ k, k < 4 → parseFieldDescriptor (TX2 k).2.2.1 = some (tyX2 k) := by decide +kernel
abbrev cX2_init : ByteArray := prog_4_method_1_code
def yX2_init : MethodName := ⟨RX2, "<init>", "()V"⟩
abbrev cX2_lend : ByteArray := prog_4_method_2_code
def yX2_lend : MethodName := ⟨RX2, "lend", "(III)I"⟩
abbrev cX2_pass : ByteArray := prog_4_method_3_code
def yX2_pass : MethodName := ⟨RX2, "pass", "(II)V"⟩
abbrev cX2_sumAfter : ByteArray := prog_4_method_4_code
def yX2_sumAfter : MethodName := ⟨RX2, "sumAfter", "(III)I"⟩
def RX3 : String := "PorcelainWorks$Matching"
def TX3 : u_T := fun k => match k with
  | 0 => ("PorcelainWorks$Matching", "row", "[I", true)
  | 1 => ("PorcelainWorks$Matching", "whites", "[I", true)
  | 2 => ("PorcelainWorks$Matching", "members", "[I", true)
  | 3 => ("PorcelainWorks$Matching", "candidates", "I", false)
  | 4 => ("PorcelainWorks$Matching", "start", "I", false)
  | _ => ("PorcelainWorks$Matching", "size", "I", false)
def tyX3 : Nat → FieldType := fun k => match k with
  | 0 => .array .int
  | 1 => .array .int
  | 2 => .array .int
  | 3 => .int
  | 4 => .int
  | _ => .int
abbrev wsX30 : List Cond := u_ws RX3 TX3 6
theorem nmX3 : ∀ a, a < 6 → ∀ b, b < 6 → a ≠ b → (TX3 a).2.1 ≠ (TX3 b).2.1 := by decide +kernel
theorem tyX3_ok : ∀ k, k < 6 → parseFieldDescriptor (TX3 k).2.2.1 = some (tyX3 k) := by decide +kernel
abbrev cX3_init : ByteArray := prog_5_method_1_code
def yX3_init : MethodName := ⟨RX3, "<init>", "()V"⟩
abbrev cX3_find : ByteArray := prog_5_method_2_code
def yX3_find : MethodName := ⟨RX3, "find", "(IIILPorcelainWorks$Pieces;)Z"⟩
abbrev cX3_gather : ByteArray := prog_5_method_3_code
def yX3_gather : MethodName := ⟨RX3, "gather", "(ILPorcelainWorks$Pieces;)V"⟩
abbrev cX3_insert : ByteArray := prog_5_method_4_code
def yX3_insert : MethodName := ⟨RX3, "insert", "(II)V"⟩
abbrev cX3_take : ByteArray := prog_5_method_5_code
def yX3_take : MethodName := ⟨RX3, "take", "(I)V"⟩
abbrev cX3_lacking : ByteArray := prog_5_method_6_code
def yX3_lacking : MethodName := ⟨RX3, "lacking", "()I"⟩
abbrev cX3_sortByNumber : ByteArray := prog_5_method_7_code
def yX3_sortByNumber : MethodName := ⟨RX3, "sortByNumber", "()V"⟩
def RX4 : String := "PorcelainWorks$Odds"
def TX4 : u_T := fun k => match k with
  | _ => ("PorcelainWorks$Odds", "row", "[I", true)
def tyX4 : Nat → FieldType := fun k => match k with
  | _ => .array .int
abbrev wsX40 : List Cond := u_ws RX4 TX4 1
theorem nmX4 : ∀ a, a < 1 → ∀ b, b < 1 → a ≠ b → (TX4 a).2.1 ≠ (TX4 b).2.1 := by decide +kernel
theorem tyX4_ok : ∀ k, k < 1 → parseFieldDescriptor (TX4 k).2.2.1 = some (tyX4 k) := by decide +kernel
abbrev cX4_init : ByteArray := prog_6_method_1_code
def yX4_init : MethodName := ⟨RX4, "<init>", "()V"⟩
abbrev cX4_ofWhole : ByteArray := prog_6_method_2_code
def yX4_ofWhole : MethodName := ⟨RX4, "ofWhole", "(III)I"⟩
abbrev cX4_fewestFor : ByteArray := prog_6_method_3_code
def yX4_fewestFor : MethodName := ⟨RX4, "fewestFor", "(III)I"⟩
abbrev cX4_begin : ByteArray := prog_6_method_4_code
def yX4_begin : MethodName := ⟨RX4, "begin", "()V"⟩
abbrev cX4_makeOneMore : ByteArray := prog_6_method_5_code
def yX4_makeOneMore : MethodName := ⟨RX4, "makeOneMore", "(II)V"⟩
abbrev cX4_orMore : ByteArray := prog_6_method_6_code
def yX4_orMore : MethodName := ⟨RX4, "orMore", "(II)I"⟩
def RX5 : String := "PorcelainWorks$Palette"
def TX5 : u_T := fun k => match k with
  | 0 => ("PorcelainWorks$Palette", "froms", "[I", true)
  | 1 => ("PorcelainWorks$Palette", "tos", "[I", true)
  | _ => ("PorcelainWorks$Palette", "planned", "[I", true)
def tyX5 : Nat → FieldType := fun k => match k with
  | 0 => .array .int
  | 1 => .array .int
  | _ => .array .int
abbrev wsX50 : List Cond := u_ws RX5 TX5 3
theorem nmX5 : ∀ a, a < 3 → ∀ b, b < 3 → a ≠ b → (TX5 a).2.1 ≠ (TX5 b).2.1 := by decide +kernel
theorem tyX5_ok : ∀ k, k < 3 → parseFieldDescriptor (TX5 k).2.2.1 = some (tyX5 k) := by decide +kernel
abbrev cX5_init : ByteArray := prog_7_method_1_code
def yX5_init : MethodName := ⟨RX5, "<init>", "()V"⟩
abbrev cX5_plan : ByteArray := prog_7_method_2_code
def yX5_plan : MethodName := ⟨RX5, "plan", "(I)I"⟩
abbrev cX5_greatestFrom : ByteArray := prog_7_method_3_code
def yX5_greatestFrom : MethodName := ⟨RX5, "greatestFrom", "(I)I"⟩
abbrev cX5_stillUnfixed : ByteArray := prog_7_method_4_code
def yX5_stillUnfixed : MethodName := ⟨RX5, "stillUnfixed", "(II)I"⟩
def RX6 : String := "PorcelainWorks$Pieces"
def TX6 : u_T := fun k => match k with
  | 0 => ("PorcelainWorks$Pieces", "pastes", "[I", true)
  | 1 => ("PorcelainWorks$Pieces", "kinds", "[I", true)
  | 2 => ("PorcelainWorks$Pieces", "sizes", "[I", true)
  | 3 => ("PorcelainWorks$Pieces", "states", "[I", true)
  | 4 => ("PorcelainWorks$Pieces", "spots", "[I", true)
  | 5 => ("PorcelainWorks$Pieces", "peaks", "[I", true)
  | 6 => ("PorcelainWorks$Pieces", "whites", "[I", true)
  | _ => ("PorcelainWorks$Pieces", "number", "I", false)
def tyX6 : Nat → FieldType := fun k => match k with
  | 0 => .array .int
  | 1 => .array .int
  | 2 => .array .int
  | 3 => .array .int
  | 4 => .array .int
  | 5 => .array .int
  | 6 => .array .int
  | _ => .int
abbrev wsX60 : List Cond := u_ws RX6 TX6 8
theorem nmX6 : ∀ a, a < 8 → ∀ b, b < 8 → a ≠ b → (TX6 a).2.1 ≠ (TX6 b).2.1 := by decide +kernel
theorem tyX6_ok : ∀ k, k < 8 → parseFieldDescriptor (TX6 k).2.2.1 = some (tyX6 k) := by decide +kernel
abbrev cX6_init : ByteArray := prog_8_method_1_code
def yX6_init : MethodName := ⟨RX6, "<init>", "()V"⟩
abbrev cX6_shape : ByteArray := prog_8_method_2_code
def yX6_shape : MethodName := ⟨RX6, "shape", "(III)I"⟩
abbrev cX6_endure : ByteArray := prog_8_method_3_code
def yX6_endure : MethodName := ⟨RX6, "endure", "(IILPorcelainWorks$Clay;)Z"⟩
abbrev cX6_isForSale : ByteArray := prog_8_method_4_code
def yX6_isForSale : MethodName := ⟨RX6, "isForSale", "(I)Z"⟩
abbrev cX6_inState : ByteArray := prog_8_method_5_code
def yX6_inState : MethodName := ⟨RX6, "inState", "(I)I"⟩
def RX7 : String := "PorcelainWorks$Secret"
def TX7 : u_T := fun k => match k with
  | 0 => ("PorcelainWorks$Secret", "sightHand", "[I", true)
  | 1 => ("PorcelainWorks$Secret", "sightHalf", "[I", true)
  | 2 => ("PorcelainWorks$Secret", "sightDay", "[I", true)
  | 3 => ("PorcelainWorks$Secret", "talkA", "[I", true)
  | 4 => ("PorcelainWorks$Secret", "talkB", "[I", true)
  | 5 => ("PorcelainWorks$Secret", "talkDay", "[I", true)
  | 6 => ("PorcelainWorks$Secret", "knowers", "[I", true)
  | 7 => ("PorcelainWorks$Secret", "before", "[I", true)
  | 8 => ("PorcelainWorks$Secret", "sights", "I", false)
  | 9 => ("PorcelainWorks$Secret", "talks", "I", false)
  | _ => ("PorcelainWorks$Secret", "joinedOn", "I", false)
def tyX7 : Nat → FieldType := fun k => match k with
  | 0 => .array .int
  | 1 => .array .int
  | 2 => .array .int
  | 3 => .array .int
  | 4 => .array .int
  | 5 => .array .int
  | 6 => .array .int
  | 7 => .array .int
  | 8 => .int
  | 9 => .int
  | _ => .int
abbrev wsX70 : List Cond := u_ws RX7 TX7 11
theorem nmX7 : ∀ a, a < 11 → ∀ b, b < 11 → a ≠ b → (TX7 a).2.1 ≠ (TX7 b).2.1 := by decide +kernel
theorem tyX7_ok : ∀ k, k < 11 → parseFieldDescriptor (TX7 k).2.2.1 = some (tyX7 k) := by decide +kernel
abbrev cX7_init : ByteArray := prog_9_method_1_code
def yX7_init : MethodName := ⟨RX7, "<init>", "()V"⟩
abbrev cX7_tellSight : ByteArray := prog_9_method_2_code
def yX7_tellSight : MethodName := ⟨RX7, "tellSight", "(III)Z"⟩
abbrev cX7_talkedOn : ByteArray := prog_9_method_3_code
def yX7_talkedOn : MethodName := ⟨RX7, "talkedOn", "(III)Z"⟩
abbrev cX7_tellTalk : ByteArray := prog_9_method_4_code
def yX7_tellTalk : MethodName := ⟨RX7, "tellTalk", "(III)V"⟩
abbrev cX7_retell : ByteArray := prog_9_method_5_code
def yX7_retell : MethodName := ⟨RX7, "retell", "(I)V"⟩
abbrev cX7_seeTill : ByteArray := prog_9_method_6_code
def yX7_seeTill : MethodName := ⟨RX7, "seeTill", "(II)I"⟩
abbrev cX7_talkAllDay : ByteArray := prog_9_method_7_code
def yX7_talkAllDay : MethodName := ⟨RX7, "talkAllDay", "(II)I"⟩
abbrev cX7_exchange : ByteArray := prog_9_method_8_code
def yX7_exchange : MethodName := ⟨RX7, "exchange", "(II)V"⟩
abbrev cX7_noteJoined : ByteArray := prog_9_method_9_code
def yX7_noteJoined : MethodName := ⟨RX7, "noteJoined", "(I)V"⟩
abbrev cX7_knownBy : ByteArray := prog_9_method_10_code
def yX7_knownBy : MethodName := ⟨RX7, "knownBy", "(I)I"⟩
abbrev cX7_firstLeak : ByteArray := prog_9_method_11_code
def yX7_firstLeak : MethodName := ⟨RX7, "firstLeak", "()I"⟩
def RX8 : String := "PorcelainWorks$Stacking"
def TX8 : u_T := fun k => match k with
  | 0 => ("PorcelainWorks$Stacking", "told", "[I", true)
  | 1 => ("PorcelainWorks$Stacking", "worths", "[I", true)
  | 2 => ("PorcelainWorks$Stacking", "fits", "[I", true)
  | 3 => ("PorcelainWorks$Stacking", "spots", "[I", true)
  | 4 => ("PorcelainWorks$Stacking", "order", "[I", true)
  | 5 => ("PorcelainWorks$Stacking", "seats", "[I", true)
  | 6 => ("PorcelainWorks$Stacking", "sitters", "[I", true)
  | 7 => ("PorcelainWorks$Stacking", "movers", "[I", true)
  | _ => ("PorcelainWorks$Stacking", "wanted", "I", false)
def tyX8 : Nat → FieldType := fun k => match k with
  | 0 => .array .int
  | 1 => .array .int
  | 2 => .array .int
  | 3 => .array .int
  | 4 => .array .int
  | 5 => .array .int
  | 6 => .array .int
  | 7 => .array .int
  | _ => .int
abbrev wsX80 : List Cond := u_ws RX8 TX8 9
theorem nmX8 : ∀ a, a < 9 → ∀ b, b < 9 → a ≠ b → (TX8 a).2.1 ≠ (TX8 b).2.1 := by decide +kernel
theorem tyX8_ok : ∀ k, k < 9 → parseFieldDescriptor (TX8 k).2.2.1 = some (tyX8 k) := by decide +kernel
abbrev cX8_init : ByteArray := prog_10_method_1_code
def yX8_init : MethodName := ⟨RX8, "<init>", "()V"⟩
abbrev cX8_isTold : ByteArray := prog_10_method_2_code
def yX8_isTold : MethodName := ⟨RX8, "isTold", "(I)Z"⟩
abbrev cX8_tell : ByteArray := prog_10_method_3_code
def yX8_tell : MethodName := ⟨RX8, "tell", "(II)I"⟩
abbrev cX8_forget : ByteArray := prog_10_method_4_code
def yX8_forget : MethodName := ⟨RX8, "forget", "()V"⟩
abbrev cX8_greatestWorth : ByteArray := prog_10_method_5_code
def yX8_greatestWorth : MethodName := ⟨RX8, "greatestWorth", "()I"⟩
abbrev cX8_choose : ByteArray := prog_10_method_6_code
def yX8_choose : MethodName := ⟨RX8, "choose", "()V"⟩
abbrev cX8_leastSpot : ByteArray := prog_10_method_7_code
def yX8_leastSpot : MethodName := ⟨RX8, "leastSpot", "(III)I"⟩
abbrev cX8_worthFrom : ByteArray := prog_10_method_8_code
def yX8_worthFrom : MethodName := ⟨RX8, "worthFrom", "(II)I"⟩
abbrev cX8_findSeat : ByteArray := prog_10_method_9_code
def yX8_findSeat : MethodName := ⟨RX8, "findSeat", "(II)Z"⟩
abbrev cX8_noteMover : ByteArray := prog_10_method_10_code
def yX8_noteMover : MethodName := ⟨RX8, "noteMover", "(II)V"⟩
abbrev cX8_moveAlong : ByteArray := prog_10_method_11_code
def yX8_moveAlong : MethodName := ⟨RX8, "moveAlong", "(I)V"⟩
def RX9 : String := "PorcelainWorks$Workshop"
def TX9 : u_T := fun k => match k with
  | 0 => ("PorcelainWorks$Workshop", "skills", "[I", true)
  | 1 => ("PorcelainWorks$Workshop", "loads", "[I", true)
  | 2 => ("PorcelainWorks$Workshop", "trial", "[I", true)
  | 3 => ("PorcelainWorks$Workshop", "chosen", "[I", true)
  | 4 => ("PorcelainWorks$Workshop", "busy", "[I", true)
  | 5 => ("PorcelainWorks$Workshop", "jobs", "I", false)
  | 6 => ("PorcelainWorks$Workshop", "shortest", "I", false)
  | _ => ("PorcelainWorks$Workshop", "shared", "Z", false)
def tyX9 : Nat → FieldType := fun k => match k with
  | 0 => .array .int
  | 1 => .array .int
  | 2 => .array .int
  | 3 => .array .int
  | 4 => .array .int
  | 5 => .int
  | 6 => .int
  | _ => .boolean
abbrev wsX90 : List Cond := u_ws RX9 TX9 8
theorem nmX9 : ∀ a, a < 8 → ∀ b, b < 8 → a ≠ b → (TX9 a).2.1 ≠ (TX9 b).2.1 := by decide +kernel
theorem tyX9_ok : ∀ k, k < 8 → parseFieldDescriptor (TX9 k).2.2.1 = some (tyX9 k) := by decide +kernel
abbrev cX9_init : ByteArray := prog_11_method_1_code
def yX9_init : MethodName := ⟨RX9, "<init>", "()V"⟩
abbrev cX9_changeSkill : ByteArray := prog_11_method_2_code
def yX9_changeSkill : MethodName := ⟨RX9, "changeSkill", "(II)I"⟩
abbrev cX9_addJob : ByteArray := prog_11_method_3_code
def yX9_addJob : MethodName := ⟨RX9, "addJob", "(I)I"⟩
abbrev cX9_share : ByteArray := prog_11_method_4_code
def yX9_share : MethodName := ⟨RX9, "share", "()V"⟩
abbrev cX9_shareFrom : ByteArray := prog_11_method_5_code
def yX9_shareFrom : MethodName := ⟨RX9, "shareFrom", "(LPorcelainWorks$Workshop;II)V"⟩
abbrev cX9_keepTrial : ByteArray := prog_11_method_6_code
def yX9_keepTrial : MethodName := ⟨RX9, "keepTrial", "(I)V"⟩
abbrev cX9_daysFor : ByteArray := prog_11_method_7_code
def yX9_daysFor : MethodName := ⟨RX9, "daysFor", "(II)I"⟩
def RX10 : String := "PorcelainWorks"
def TX10 : u_T := fun k => match k with
  | 0 => ("PorcelainWorks", "refusals", "[I", true)
  | 1 => ("PorcelainWorks", "clay", "LPorcelainWorks$Clay;", true)
  | 2 => ("PorcelainWorks", "pieces", "LPorcelainWorks$Pieces;", true)
  | 3 => ("PorcelainWorks", "kiln", "LPorcelainWorks$Kiln;", true)
  | 4 => ("PorcelainWorks", "stacking", "LPorcelainWorks$Stacking;", true)
  | 5 => ("PorcelainWorks", "palette", "LPorcelainWorks$Palette;", true)
  | 6 => ("PorcelainWorks", "workshop", "LPorcelainWorks$Workshop;", true)
  | 7 => ("PorcelainWorks", "matching", "LPorcelainWorks$Matching;", true)
  | 8 => ("PorcelainWorks", "odds", "LPorcelainWorks$Odds;", true)
  | 9 => ("PorcelainWorks", "secret", "LPorcelainWorks$Secret;", true)
  | 10 => ("PorcelainWorks", "ledger", "LPorcelainWorks$Ledger;", true)
  | _ => ("PorcelainWorks", "day", "I", false)
def tyX10 : Nat → FieldType := fun k => match k with
  | 0 => .array .int
  | 1 => .object "PorcelainWorks$Clay"
  | 2 => .object "PorcelainWorks$Pieces"
  | 3 => .object "PorcelainWorks$Kiln"
  | 4 => .object "PorcelainWorks$Stacking"
  | 5 => .object "PorcelainWorks$Palette"
  | 6 => .object "PorcelainWorks$Workshop"
  | 7 => .object "PorcelainWorks$Matching"
  | 8 => .object "PorcelainWorks$Odds"
  | 9 => .object "PorcelainWorks$Secret"
  | 10 => .object "PorcelainWorks$Ledger"
  | _ => .int
abbrev wsX100 : List Cond := u_ws RX10 TX10 12
theorem nmX10 : ∀ a, a < 12 → ∀ b, b < 12 → a ≠ b → (TX10 a).2.1 ≠ (TX10 b).2.1 := by decide +kernel
theorem tyX10_ok : ∀ k, k < 12 → parseFieldDescriptor (TX10 k).2.2.1 = some (tyX10 k) := by decide +kernel
abbrev cX10_init : ByteArray := prog_1_method_1_code
def yX10_init : MethodName := ⟨RX10, "<init>", "()V"⟩
abbrev cX10_paste : ByteArray := prog_1_method_2_code
def yX10_paste : MethodName := ⟨RX10, "paste", "(III)I"⟩
abbrev cX10_batch : ByteArray := prog_1_method_3_code
def yX10_batch : MethodName := ⟨RX10, "batch", "(II)I"⟩
abbrev cX10_days : ByteArray := prog_1_method_4_code
def yX10_days : MethodName := ⟨RX10, "days", "(I)I"⟩
abbrev cX10_piece : ByteArray := prog_1_method_5_code
def yX10_piece : MethodName := ⟨RX10, "piece", "(IIII)I"⟩
abbrev cX10_place : ByteArray := prog_1_method_6_code
def yX10_place : MethodName := ⟨RX10, "place", "(III)I"⟩
abbrev cX10_wood : ByteArray := prog_1_method_7_code
def yX10_wood : MethodName := ⟨RX10, "wood", "(I)I"⟩
abbrev cX10_clear : ByteArray := prog_1_method_8_code
def yX10_clear : MethodName := ⟨RX10, "clear", "()I"⟩
abbrev cX10_peak : ByteArray := prog_1_method_9_code
def yX10_peak : MethodName := ⟨RX10, "peak", "(I)I"⟩
abbrev cX10_heat : ByteArray := prog_1_method_10_code
def yX10_heat : MethodName := ⟨RX10, "heat", "(II)I"⟩
abbrev cX10_stack : ByteArray := prog_1_method_11_code
def yX10_stack : MethodName := ⟨RX10, "stack", "(II)I"⟩
abbrev cX10_unstack : ByteArray := prog_1_method_12_code
def yX10_unstack : MethodName := ⟨RX10, "unstack", "(I)I"⟩
abbrev cX10_fire : ByteArray := prog_1_method_13_code
def yX10_fire : MethodName := ⟨RX10, "fire", "()I"⟩
abbrev cX10_want : ByteArray := prog_1_method_14_code
def yX10_want : MethodName := ⟨RX10, "want", "(II)I"⟩
abbrev cX10_best : ByteArray := prog_1_method_15_code
def yX10_best : MethodName := ⟨RX10, "best", "()I"⟩
abbrev cX10_bestPlace : ByteArray := prog_1_method_16_code
def yX10_bestPlace : MethodName := ⟨RX10, "bestPlace", "(I)I"⟩
abbrev cX10_lay : ByteArray := prog_1_method_17_code
def yX10_lay : MethodName := ⟨RX10, "lay", "()I"⟩
abbrev cX10_colour : ByteArray := prog_1_method_18_code
def yX10_colour : MethodName := ⟨RX10, "colour", "(III)I"⟩
abbrev cX10_fires : ByteArray := prog_1_method_19_code
def yX10_fires : MethodName := ⟨RX10, "fires", "(I)I"⟩
abbrev cX10_fireHeat : ByteArray := prog_1_method_20_code
def yX10_fireHeat : MethodName := ⟨RX10, "fireHeat", "(II)I"⟩
abbrev cX10_skill : ByteArray := prog_1_method_21_code
def yX10_skill : MethodName := ⟨RX10, "skill", "(II)I"⟩
abbrev cX10_job : ByteArray := prog_1_method_22_code
def yX10_job : MethodName := ⟨RX10, "job", "(I)I"⟩
abbrev cX10_least : ByteArray := prog_1_method_23_code
def yX10_least : MethodName := ⟨RX10, "least", "()I"⟩
abbrev cX10_painter : ByteArray := prog_1_method_24_code
def yX10_painter : MethodName := ⟨RX10, "painter", "(I)I"⟩
abbrev cX10_paint : ByteArray := prog_1_method_25_code
def yX10_paint : MethodName := ⟨RX10, "paint", "(I)I"⟩
abbrev cX10_service : ByteArray := prog_1_method_26_code
def yX10_service : MethodName := ⟨RX10, "service", "(III)I"⟩
abbrev cX10_matched : ByteArray := prog_1_method_27_code
def yX10_matched : MethodName := ⟨RX10, "matched", "(IIII)I"⟩
abbrev cX10_sell : ByteArray := prog_1_method_28_code
def yX10_sell : MethodName := ⟨RX10, "sell", "(III)I"⟩
abbrev cX10_chance : ByteArray := prog_1_method_29_code
def yX10_chance : MethodName := ⟨RX10, "chance", "(III)I"⟩
abbrev cX10_make : ByteArray := prog_1_method_30_code
def yX10_make : MethodName := ⟨RX10, "make", "(III)I"⟩
abbrev cX10_see : ByteArray := prog_1_method_31_code
def yX10_see : MethodName := ⟨RX10, "see", "(II)I"⟩
abbrev cX10_talk : ByteArray := prog_1_method_32_code
def yX10_talk : MethodName := ⟨RX10, "talk", "(II)I"⟩
abbrev cX10_knows : ByteArray := prog_1_method_33_code
def yX10_knows : MethodName := ⟨RX10, "knows", "(I)I"⟩
abbrev cX10_joined : ByteArray := prog_1_method_34_code
def yX10_joined : MethodName := ⟨RX10, "joined", "()I"⟩
abbrev cX10_leak : ByteArray := prog_1_method_35_code
def yX10_leak : MethodName := ⟨RX10, "leak", "()I"⟩
abbrev cX10_debt : ByteArray := prog_1_method_36_code
def yX10_debt : MethodName := ⟨RX10, "debt", "(II)I"⟩
abbrev cX10_pay : ByteArray := prog_1_method_37_code
def yX10_pay : MethodName := ⟨RX10, "pay", "(II)I"⟩
abbrev cX10_owed : ByteArray := prog_1_method_38_code
def yX10_owed : MethodName := ⟨RX10, "owed", "(II)I"⟩
abbrev cX10_pieceOf : ByteArray := prog_1_method_39_code
def yX10_pieceOf : MethodName := ⟨RX10, "pieceOf", "(II)I"⟩
abbrev cX10_count : ByteArray := prog_1_method_40_code
def yX10_count : MethodName := ⟨RX10, "count", "(I)I"⟩
abbrev cX10_within : ByteArray := prog_1_method_41_code
def yX10_within : MethodName := ⟨RX10, "within", "(II)Z"⟩
abbrev cX10_isColourSet : ByteArray := prog_1_method_42_code
def yX10_isColourSet : MethodName := ⟨RX10, "isColourSet", "(I)Z"⟩
abbrev cX10_refuse : ByteArray := prog_1_method_43_code
def yX10_refuse : MethodName := ⟨RX10, "refuse", "(I)I"⟩
abbrev cX10_serviceRefusal : ByteArray := prog_1_method_44_code
def yX10_serviceRefusal : MethodName := ⟨RX10, "serviceRefusal", "(III)I"⟩
abbrev cX10_pass : ByteArray := prog_1_method_45_code
def yX10_pass : MethodName := ⟨RX10, "pass", "(I)V"⟩
abbrev cX10_isLoose : ByteArray := prog_1_method_46_code
def yX10_isLoose : MethodName := ⟨RX10, "isLoose", "(I)Z"⟩
abbrev cX10_putIn : ByteArray := prog_1_method_47_code
def yX10_putIn : MethodName := ⟨RX10, "putIn", "(II)V"⟩
abbrev cX10_takeOut : ByteArray := prog_1_method_48_code
def yX10_takeOut : MethodName := ⟨RX10, "takeOut", "(II)V"⟩
abbrev cX10_learnFits : ByteArray := prog_1_method_49_code
def yX10_learnFits : MethodName := ⟨RX10, "learnFits", "()V"⟩
abbrev cX10_placesThatFire : ByteArray := prog_1_method_50_code
def yX10_placesThatFire : MethodName := ⟨RX10, "placesThatFire", "(I)I"⟩
def RX11 : String := "PorcelainWorksModel"
def TX11 : u_T := fun k => match k with
  | 0 => ("PorcelainWorksModel", "refusals", "[I", true)
  | 1 => ("PorcelainWorksModel", "pastes", "[I", true)
  | 2 => ("PorcelainWorksModel", "batchPaste", "[I", true)
  | 3 => ("PorcelainWorksModel", "left", "[I", true)
  | 4 => ("PorcelainWorksModel", "mixed", "[I", true)
  | 5 => ("PorcelainWorksModel", "pieceBatch", "[I", true)
  | 6 => ("PorcelainWorksModel", "kind", "[I", true)
  | 7 => ("PorcelainWorksModel", "size", "[I", true)
  | 8 => ("PorcelainWorksModel", "state", "[I", true)
  | 9 => ("PorcelainWorksModel", "spot", "[I", true)
  | 10 => ("PorcelainWorksModel", "peaks", "[I", true)
  | 11 => ("PorcelainWorksModel", "white", "[I", true)
  | 12 => ("PorcelainWorksModel", "gain", "[I", true)
  | 13 => ("PorcelainWorksModel", "loss", "[I", true)
  | 14 => ("PorcelainWorksModel", "in", "[I", true)
  | 15 => ("PorcelainWorksModel", "woods", "[I", true)
  | 16 => ("PorcelainWorksModel", "day", "I", false)
  | 17 => ("PorcelainWorksModel", "batches", "I", false)
  | 18 => ("PorcelainWorksModel", "pieces", "I", false)
  | 19 => ("PorcelainWorksModel", "hours", "I", false)
  | 20 => ("PorcelainWorksModel", "burned", "I", false)
  | 21 => ("PorcelainWorksModel", "wants", "I", false)
  | 22 => ("PorcelainWorksModel", "jobs", "I", false)
  | 23 => ("PorcelainWorksModel", "talks", "I", false)
  | 24 => ("PorcelainWorksModel", "sees", "I", false)
  | 25 => ("PorcelainWorksModel", "debts", "I", false)
  | 26 => ("PorcelainWorksModel", "heat", "[I", true)
  | 27 => ("PorcelainWorksModel", "made0", "[I", true)
  | 28 => ("PorcelainWorksModel", "peak", "[I", true)
  | 29 => ("PorcelainWorksModel", "wanted", "[I", true)
  | 30 => ("PorcelainWorksModel", "worth", "[I", true)
  | 31 => ("PorcelainWorksModel", "most", "[I", true)
  | 32 => ("PorcelainWorksModel", "placed", "[I", true)
  | 33 => ("PorcelainWorksModel", "from", "[I", true)
  | 34 => ("PorcelainWorksModel", "to", "[I", true)
  | 35 => ("PorcelainWorksModel", "heats", "[I", true)
  | 36 => ("PorcelainWorksModel", "skills", "[I", true)
  | 37 => ("PorcelainWorksModel", "loads", "[I", true)
  | 38 => ("PorcelainWorksModel", "painters", "[I", true)
  | 39 => ("PorcelainWorksModel", "busy", "[I", true)
  | 40 => ("PorcelainWorksModel", "matched", "[Z", true)
  | 41 => ("PorcelainWorksModel", "trial", "[Z", true)
  | 42 => ("PorcelainWorksModel", "parts", "[I", true)
  | 43 => ("PorcelainWorksModel", "seeHand", "[I", true)
  | 44 => ("PorcelainWorksModel", "seeHalf", "[I", true)
  | 45 => ("PorcelainWorksModel", "seeDay", "[I", true)
  | 46 => ("PorcelainWorksModel", "talkA", "[I", true)
  | 47 => ("PorcelainWorksModel", "talkB", "[I", true)
  | 48 => ("PorcelainWorksModel", "talkDay", "[I", true)
  | 49 => ("PorcelainWorksModel", "known", "[I", true)
  | 50 => ("PorcelainWorksModel", "ahead", "[I", true)
  | 51 => ("PorcelainWorksModel", "owes", "[I", true)
  | 52 => ("PorcelainWorksModel", "rates", "[I", true)
  | _ => ("PorcelainWorksModel", "made", "[I", true)
def tyX11 : Nat → FieldType := fun k => match k with
  | 0 => .array .int
  | 1 => .array .int
  | 2 => .array .int
  | 3 => .array .int
  | 4 => .array .int
  | 5 => .array .int
  | 6 => .array .int
  | 7 => .array .int
  | 8 => .array .int
  | 9 => .array .int
  | 10 => .array .int
  | 11 => .array .int
  | 12 => .array .int
  | 13 => .array .int
  | 14 => .array .int
  | 15 => .array .int
  | 16 => .int
  | 17 => .int
  | 18 => .int
  | 19 => .int
  | 20 => .int
  | 21 => .int
  | 22 => .int
  | 23 => .int
  | 24 => .int
  | 25 => .int
  | 26 => .array .int
  | 27 => .array .int
  | 28 => .array .int
  | 29 => .array .int
  | 30 => .array .int
  | 31 => .array .int
  | 32 => .array .int
  | 33 => .array .int
  | 34 => .array .int
  | 35 => .array .int
  | 36 => .array .int
  | 37 => .array .int
  | 38 => .array .int
  | 39 => .array .int
  | 40 => .array .boolean
  | 41 => .array .boolean
  | 42 => .array .int
  | 43 => .array .int
  | 44 => .array .int
  | 45 => .array .int
  | 46 => .array .int
  | 47 => .array .int
  | 48 => .array .int
  | 49 => .array .int
  | 50 => .array .int
  | 51 => .array .int
  | 52 => .array .int
  | _ => .array .int
abbrev wsX110 : List Cond := u_ws RX11 TX11 54
theorem nmX11 : ∀ a, a < 54 → ∀ b, b < 54 → a ≠ b → (TX11 a).2.1 ≠ (TX11 b).2.1 := by decide +kernel
theorem tyX11_ok : ∀ k, k < 54 → parseFieldDescriptor (TX11 k).2.2.1 = some (tyX11 k) := by decide +kernel
abbrev cX11_init : ByteArray := prog_13_method_1_code
def yX11_init : MethodName := ⟨RX11, "<init>", "()V"⟩
abbrev cX11_refuse : ByteArray := prog_13_method_2_code
def yX11_refuse : MethodName := ⟨RX11, "refuse", "(I)I"⟩
abbrev cX11_isIn : ByteArray := prog_13_method_3_code
def yX11_isIn : MethodName := ⟨RX11, "isIn", "(II)Z"⟩
abbrev cX11_wrong : ByteArray := prog_13_method_4_code
def yX11_wrong : MethodName := ⟨RX11, "wrong", "(III)I"⟩
abbrev cX11_paste : ByteArray := prog_13_method_5_code
def yX11_paste : MethodName := ⟨RX11, "paste", "(III)I"⟩
abbrev cX11_batch : ByteArray := prog_13_method_6_code
def yX11_batch : MethodName := ⟨RX11, "batch", "(II)I"⟩
abbrev cX11_goes : ByteArray := prog_13_method_7_code
def yX11_goes : MethodName := ⟨RX11, "goes", "(I)V"⟩
abbrev cX11_days : ByteArray := prog_13_method_8_code
def yX11_days : MethodName := ⟨RX11, "days", "(I)I"⟩
abbrev cX11_piece : ByteArray := prog_13_method_9_code
def yX11_piece : MethodName := ⟨RX11, "piece", "(IIII)I"⟩
abbrev cX11_place : ByteArray := prog_13_method_10_code
def yX11_place : MethodName := ⟨RX11, "place", "(III)I"⟩
abbrev cX11_wood : ByteArray := prog_13_method_11_code
def yX11_wood : MethodName := ⟨RX11, "wood", "(I)I"⟩
abbrev cX11_clear : ByteArray := prog_13_method_12_code
def yX11_clear : MethodName := ⟨RX11, "clear", "()I"⟩
abbrev cX11_burns : ByteArray := prog_13_method_13_code
def yX11_burns : MethodName := ⟨RX11, "burns", "(I)V"⟩
abbrev cX11_peak : ByteArray := prog_13_method_14_code
def yX11_peak : MethodName := ⟨RX11, "peak", "(I)I"⟩
abbrev cX11_heat : ByteArray := prog_13_method_15_code
def yX11_heat : MethodName := ⟨RX11, "heat", "(II)I"⟩
abbrev cX11_isPiece : ByteArray := prog_13_method_16_code
def yX11_isPiece : MethodName := ⟨RX11, "isPiece", "(I)Z"⟩
abbrev cX11_stack : ByteArray := prog_13_method_17_code
def yX11_stack : MethodName := ⟨RX11, "stack", "(II)I"⟩
abbrev cX11_takes : ByteArray := prog_13_method_18_code
def yX11_takes : MethodName := ⟨RX11, "takes", "(I)I"⟩
abbrev cX11_unstack : ByteArray := prog_13_method_19_code
def yX11_unstack : MethodName := ⟨RX11, "unstack", "(I)I"⟩
abbrev cX11_pasteOf : ByteArray := prog_13_method_20_code
def yX11_pasteOf : MethodName := ⟨RX11, "pasteOf", "(II)I"⟩
abbrev cX11_bears : ByteArray := prog_13_method_21_code
def yX11_bears : MethodName := ⟨RX11, "bears", "(II)Z"⟩
abbrev cX11_fire : ByteArray := prog_13_method_22_code
def yX11_fire : MethodName := ⟨RX11, "fire", "()I"⟩
abbrev cX11_isWanted : ByteArray := prog_13_method_23_code
def yX11_isWanted : MethodName := ⟨RX11, "isWanted", "(I)Z"⟩
abbrev cX11_want : ByteArray := prog_13_method_24_code
def yX11_want : MethodName := ⟨RX11, "want", "(II)I"⟩
abbrev cX11_finds : ByteArray := prog_13_method_25_code
def yX11_finds : MethodName := ⟨RX11, "finds", "()I"⟩
abbrev cX11_mayLie : ByteArray := prog_13_method_26_code
def yX11_mayLie : MethodName := ⟨RX11, "mayLie", "(III)Z"⟩
abbrev cX11_best : ByteArray := prog_13_method_27_code
def yX11_best : MethodName := ⟨RX11, "best", "()I"⟩
abbrev cX11_bestPlace : ByteArray := prog_13_method_28_code
def yX11_bestPlace : MethodName := ⟨RX11, "bestPlace", "(I)I"⟩
abbrev cX11_lay : ByteArray := prog_13_method_29_code
def yX11_lay : MethodName := ⟨RX11, "lay", "()I"⟩
abbrev cX11_colour : ByteArray := prog_13_method_30_code
def yX11_colour : MethodName := ⟨RX11, "colour", "(III)I"⟩
abbrev cX11_firesOf : ByteArray := prog_13_method_31_code
def yX11_firesOf : MethodName := ⟨RX11, "firesOf", "(I)I"⟩
abbrev cX11_fires : ByteArray := prog_13_method_32_code
def yX11_fires : MethodName := ⟨RX11, "fires", "(I)I"⟩
abbrev cX11_fireHeat : ByteArray := prog_13_method_33_code
def yX11_fireHeat : MethodName := ⟨RX11, "fireHeat", "(II)I"⟩
abbrev cX11_skill : ByteArray := prog_13_method_34_code
def yX11_skill : MethodName := ⟨RX11, "skill", "(II)I"⟩
abbrev cX11_job : ByteArray := prog_13_method_35_code
def yX11_job : MethodName := ⟨RX11, "job", "(I)I"⟩
abbrev cX11_leastOf : ByteArray := prog_13_method_36_code
def yX11_leastOf : MethodName := ⟨RX11, "leastOf", "()I"⟩
abbrev cX11_least : ByteArray := prog_13_method_37_code
def yX11_least : MethodName := ⟨RX11, "least", "()I"⟩
abbrev cX11_painter : ByteArray := prog_13_method_38_code
def yX11_painter : MethodName := ⟨RX11, "painter", "(I)I"⟩
abbrev cX11_paint : ByteArray := prog_13_method_39_code
def yX11_paint : MethodName := ⟨RX11, "paint", "(I)I"⟩
abbrev cX11_wrongService : ByteArray := prog_13_method_40_code
def yX11_wrongService : MethodName := ⟨RX11, "wrongService", "(III)I"⟩
abbrev cX11_isWhole : ByteArray := prog_13_method_41_code
def yX11_isWhole : MethodName := ⟨RX11, "isWhole", "(II)Z"⟩
abbrev cX11_matches : ByteArray := prog_13_method_42_code
def yX11_matches : MethodName := ⟨RX11, "matches", "(III)I"⟩
abbrev cX11_service : ByteArray := prog_13_method_43_code
def yX11_service : MethodName := ⟨RX11, "service", "(III)I"⟩
abbrev cX11_matched : ByteArray := prog_13_method_44_code
def yX11_matched : MethodName := ⟨RX11, "matched", "(IIII)I"⟩
abbrev cX11_sell : ByteArray := prog_13_method_45_code
def yX11_sell : MethodName := ⟨RX11, "sell", "(III)I"⟩
abbrev cX11_begins : ByteArray := prog_13_method_46_code
def yX11_begins : MethodName := ⟨RX11, "begins", "()V"⟩
abbrev cX11_oneMore : ByteArray := prog_13_method_47_code
def yX11_oneMore : MethodName := ⟨RX11, "oneMore", "(I)V"⟩
abbrev cX11_orMore : ByteArray := prog_13_method_48_code
def yX11_orMore : MethodName := ⟨RX11, "orMore", "(I)I"⟩
abbrev cX11_chance : ByteArray := prog_13_method_49_code
def yX11_chance : MethodName := ⟨RX11, "chance", "(III)I"⟩
abbrev cX11_make : ByteArray := prog_13_method_50_code
def yX11_make : MethodName := ⟨RX11, "make", "(III)I"⟩
abbrev cX11_see : ByteArray := prog_13_method_51_code
def yX11_see : MethodName := ⟨RX11, "see", "(II)I"⟩
abbrev cX11_talk : ByteArray := prog_13_method_52_code
def yX11_talk : MethodName := ⟨RX11, "talk", "(II)I"⟩
abbrev cX11_tells : ByteArray := prog_13_method_53_code
def yX11_tells : MethodName := ⟨RX11, "tells", "(I)I"⟩
abbrev cX11_nextDay : ByteArray := prog_13_method_54_code
def yX11_nextDay : MethodName := ⟨RX11, "nextDay", "(I)I"⟩
abbrev cX11_knows : ByteArray := prog_13_method_55_code
def yX11_knows : MethodName := ⟨RX11, "knows", "(I)I"⟩
abbrev cX11_joined : ByteArray := prog_13_method_56_code
def yX11_joined : MethodName := ⟨RX11, "joined", "()I"⟩
abbrev cX11_leak : ByteArray := prog_13_method_57_code
def yX11_leak : MethodName := ⟨RX11, "leak", "()I"⟩
abbrev cX11_grown : ByteArray := prog_13_method_58_code
def yX11_grown : MethodName := ⟨RX11, "grown", "(II)I"⟩
abbrev cX11_debt : ByteArray := prog_13_method_59_code
def yX11_debt : MethodName := ⟨RX11, "debt", "(II)I"⟩
abbrev cX11_pay : ByteArray := prog_13_method_60_code
def yX11_pay : MethodName := ⟨RX11, "pay", "(II)I"⟩
abbrev cX11_owed : ByteArray := prog_13_method_61_code
def yX11_owed : MethodName := ⟨RX11, "owed", "(II)I"⟩
abbrev cX11_pieceOf : ByteArray := prog_13_method_62_code
def yX11_pieceOf : MethodName := ⟨RX11, "pieceOf", "(II)I"⟩
abbrev cX11_count : ByteArray := prog_13_method_63_code
def yX11_count : MethodName := ⟨RX11, "count", "(I)I"⟩
def RJ6 : String := "java/lang/Integer"
def TJ6 : u_T := fun k => match k with
  | _ => ("", "", "", false)
def tyJ6 : Nat → FieldType := fun k => match k with
  | _ => .int
abbrev wsJ60 : List Cond := u_ws RJ6 TJ6 0
theorem nmJ6 : ∀ a, a < 0 → ∀ b, b < 0 → a ≠ b → (TJ6 a).2.1 ≠ (TJ6 b).2.1 := by decide +kernel
theorem tyJ6_ok : ∀ k, k < 0 → parseFieldDescriptor (TJ6 k).2.2.1 = some (tyJ6 k) := by decide +kernel
abbrev cJ6_numberOfTrailingZeros_0f7a4 : ByteArray := prog_14_method_48_code
def yJ6_numberOfTrailingZeros_0f7a4 : MethodName := ⟨RJ6, "numberOfTrailingZeros", "(I)I"⟩
def RJ9 : String := "java/lang/Math"
def TJ9 : u_T := fun k => match k with
  | _ => ("", "", "", false)
def tyJ9 : Nat → FieldType := fun k => match k with
  | _ => .int
abbrev wsJ90 : List Cond := u_ws RJ9 TJ9 0
theorem nmJ9 : ∀ a, a < 0 → ∀ b, b < 0 → a ≠ b → (TJ9 a).2.1 ≠ (TJ9 b).2.1 := by decide +kernel
theorem tyJ9_ok : ∀ k, k < 0 → parseFieldDescriptor (TJ9 k).2.2.1 = some (tyJ9 k) := by decide +kernel
abbrev cJ9_abs_0f7a4 : ByteArray := prog_15_method_59_code
def yJ9_abs_0f7a4 : MethodName := ⟨RJ9, "abs", "(I)I"⟩
abbrev cJ9_max_7cf53 : ByteArray := prog_15_method_65_code
def yJ9_max_7cf53 : MethodName := ⟨RJ9, "max", "(II)I"⟩
abbrev cJ9_min_7cf53 : ByteArray := prog_15_method_69_code
def yJ9_min_7cf53 : MethodName := ⟨RJ9, "min", "(II)I"⟩
abbrev cJ9_min_f86c9 : ByteArray := prog_15_method_70_code
def yJ9_min_f86c9 : MethodName := ⟨RJ9, "min", "(JJ)J"⟩
def RL : String := "PorcelainWorksLaw"
abbrev cL_law : ByteArray := code
def yL_law : MethodName := ⟨RL, "law", "([I)Z"⟩
abbrev vwCl : List vw_C := [(RX0, TX0, 5), (RX1, TX1, 8), (RX2, TX2, 4), (RX3, TX3, 6), (RX4, TX4, 1), (RX5, TX5, 3), (RX6, TX6, 8), (RX7, TX7, 11), (RX8, TX8, 9), (RX9, TX9, 8), (RX10, TX10, 12), (RX11, TX11, 54)]
end
section
theorem dX0_init_0 : decode cX0_init 0 = .ok (.aload_n 0, 1) := by decide +kernel
theorem dX0_init_1 : decode cX0_init 1 = .ok (.invokespecial 3, 3) := by decide +kernel
theorem dX0_init_4 : decode cX0_init 4 = .ok (.aload_n 0, 1) := by decide +kernel
theorem dX0_init_5 : decode cX0_init 5 = .ok (.bipush 24, 2) := by decide +kernel
theorem dX0_init_7 : decode cX0_init 7 = .ok (.newarray .int, 2) := by decide +kernel
theorem dX0_init_9 : decode cX0_init 9 = .ok (.putfield 9, 3) := by decide +kernel
theorem dX0_init_12 : decode cX0_init 12 = .ok (.aload_n 0, 1) := by decide +kernel
theorem dX0_init_13 : decode cX0_init 13 = .ok (.bipush 20, 2) := by decide +kernel
theorem dX0_init_15 : decode cX0_init 15 = .ok (.newarray .int, 2) := by decide +kernel
theorem dX0_init_17 : decode cX0_init 17 = .ok (.putfield 15, 3) := by decide +kernel
theorem dX0_init_20 : decode cX0_init 20 = .ok (.aload_n 0, 1) := by decide +kernel
theorem dX0_init_21 : decode cX0_init 21 = .ok (.bipush 20, 2) := by decide +kernel
theorem dX0_init_23 : decode cX0_init 23 = .ok (.newarray .int, 2) := by decide +kernel
theorem dX0_init_25 : decode cX0_init 25 = .ok (.putfield 18, 3) := by decide +kernel
theorem dX0_init_28 : decode cX0_init 28 = .ok (.aload_n 0, 1) := by decide +kernel
theorem dX0_init_29 : decode cX0_init 29 = .ok (.bipush 20, 2) := by decide +kernel
theorem dX0_init_31 : decode cX0_init 31 = .ok (.newarray .int, 2) := by decide +kernel
theorem dX0_init_33 : decode cX0_init 33 = .ok (.putfield 21, 3) := by decide +kernel
theorem dX0_init_36 : decode cX0_init 36 = .ok (.aload_n 0, 1) := by decide +kernel
theorem dX0_init_37 : decode cX0_init 37 = .ok (.iconst 0, 1) := by decide +kernel
theorem dX0_init_38 : decode cX0_init 38 = .ok (.putfield 24, 3) := by decide +kernel
theorem dX0_init_41 : decode cX0_init 41 = .ok (.iconst 0, 1) := by decide +kernel
theorem dX0_init_42 : decode cX0_init 42 = .ok (.istore_n 1, 1) := by decide +kernel
theorem dX0_init_43 : decode cX0_init 43 = .ok (.iload_n 1, 1) := by decide +kernel
theorem dX0_init_44 : decode cX0_init 44 = .ok (.bipush 24, 2) := by decide +kernel
theorem dX0_init_46 : decode cX0_init 46 = .ok (.if_icmp .ge 22, 3) := by decide +kernel
theorem dX0_init_49 : decode cX0_init 49 = .ok (.aload_n 0, 1) := by decide +kernel
theorem dX0_init_50 : decode cX0_init 50 = .ok (.getfield 9, 3) := by decide +kernel
theorem dX0_init_53 : decode cX0_init 53 = .ok (.iload_n 1, 1) := by decide +kernel
theorem dX0_init_54 : decode cX0_init 54 = .ok (.getstatic 28, 3) := by decide +kernel
theorem dX0_init_57 : decode cX0_init 57 = .ok (.iload_n 1, 1) := by decide +kernel
theorem dX0_init_58 : decode cX0_init 58 = .ok (.iconst 4, 1) := by decide +kernel
theorem dX0_init_59 : decode cX0_init 59 = .ok (.irem, 1) := by decide +kernel
theorem dX0_init_60 : decode cX0_init 60 = .ok (.iaload, 1) := by decide +kernel
theorem dX0_init_61 : decode cX0_init 61 = .ok (.iastore, 1) := by decide +kernel
theorem dX0_init_62 : decode cX0_init 62 = .ok (.iinc 1 1, 3) := by decide +kernel
theorem dX0_init_65 : decode cX0_init 65 = .ok (.goto (-22), 3) := by decide +kernel
theorem dX0_init_68 : decode cX0_init 68 = .ok (.return_, 1) := by decide +kernel
theorem dX0_trait_0 : decode cX0_trait 0 = .ok (.aload_n 0, 1) := by decide +kernel
theorem dX0_trait_1 : decode cX0_trait 1 = .ok (.getfield 9, 3) := by decide +kernel
theorem dX0_trait_4 : decode cX0_trait 4 = .ok (.iload_n 1, 1) := by decide +kernel
theorem dX0_trait_5 : decode cX0_trait 5 = .ok (.iconst 4, 1) := by decide +kernel
theorem dX0_trait_6 : decode cX0_trait 6 = .ok (.imul, 1) := by decide +kernel
theorem dX0_trait_7 : decode cX0_trait 7 = .ok (.iload_n 2, 1) := by decide +kernel
theorem dX0_trait_8 : decode cX0_trait 8 = .ok (.iadd, 1) := by decide +kernel
theorem dX0_trait_9 : decode cX0_trait 9 = .ok (.iaload, 1) := by decide +kernel
theorem dX0_trait_10 : decode cX0_trait 10 = .ok (.ireturn, 1) := by decide +kernel
theorem dX0_changeTrait_0 : decode cX0_changeTrait 0 = .ok (.aload_n 0, 1) := by decide +kernel
theorem dX0_changeTrait_1 : decode cX0_changeTrait 1 = .ok (.iload_n 1, 1) := by decide +kernel
theorem dX0_changeTrait_2 : decode cX0_changeTrait 2 = .ok (.iload_n 2, 1) := by decide +kernel
theorem dX0_changeTrait_3 : decode cX0_changeTrait 3 = .ok (.invokevirtual 31, 3) := by decide +kernel
theorem dX0_changeTrait_6 : decode cX0_changeTrait 6 = .ok (.istore 4, 2) := by decide +kernel
theorem dX0_changeTrait_8 : decode cX0_changeTrait 8 = .ok (.aload_n 0, 1) := by decide +kernel
theorem dX0_changeTrait_9 : decode cX0_changeTrait 9 = .ok (.getfield 9, 3) := by decide +kernel
theorem dX0_changeTrait_12 : decode cX0_changeTrait 12 = .ok (.iload_n 1, 1) := by decide +kernel
theorem dX0_changeTrait_13 : decode cX0_changeTrait 13 = .ok (.iconst 4, 1) := by decide +kernel
theorem dX0_changeTrait_14 : decode cX0_changeTrait 14 = .ok (.imul, 1) := by decide +kernel
theorem dX0_changeTrait_15 : decode cX0_changeTrait 15 = .ok (.iload_n 2, 1) := by decide +kernel
theorem dX0_changeTrait_16 : decode cX0_changeTrait 16 = .ok (.iadd, 1) := by decide +kernel
theorem dX0_changeTrait_17 : decode cX0_changeTrait 17 = .ok (.iload_n 3, 1) := by decide +kernel
theorem dX0_changeTrait_18 : decode cX0_changeTrait 18 = .ok (.iastore, 1) := by decide +kernel
theorem dX0_changeTrait_19 : decode cX0_changeTrait 19 = .ok (.iload 4, 2) := by decide +kernel
theorem dX0_changeTrait_21 : decode cX0_changeTrait 21 = .ok (.ireturn, 1) := by decide +kernel
theorem dX0_mix_0 : decode cX0_mix 0 = .ok (.aload_n 0, 1) := by decide +kernel
theorem dX0_mix_1 : decode cX0_mix 1 = .ok (.getfield 15, 3) := by decide +kernel
theorem dX0_mix_4 : decode cX0_mix 4 = .ok (.aload_n 0, 1) := by decide +kernel
theorem dX0_mix_5 : decode cX0_mix 5 = .ok (.getfield 24, 3) := by decide +kernel
theorem dX0_mix_8 : decode cX0_mix 8 = .ok (.iload_n 1, 1) := by decide +kernel
theorem dX0_mix_9 : decode cX0_mix 9 = .ok (.iastore, 1) := by decide +kernel
theorem dX0_mix_10 : decode cX0_mix 10 = .ok (.aload_n 0, 1) := by decide +kernel
theorem dX0_mix_11 : decode cX0_mix 11 = .ok (.getfield 18, 3) := by decide +kernel
theorem dX0_mix_14 : decode cX0_mix 14 = .ok (.aload_n 0, 1) := by decide +kernel
theorem dX0_mix_15 : decode cX0_mix 15 = .ok (.getfield 24, 3) := by decide +kernel
theorem dX0_mix_18 : decode cX0_mix 18 = .ok (.iload_n 2, 1) := by decide +kernel
theorem dX0_mix_19 : decode cX0_mix 19 = .ok (.iastore, 1) := by decide +kernel
theorem dX0_mix_20 : decode cX0_mix 20 = .ok (.aload_n 0, 1) := by decide +kernel
theorem dX0_mix_21 : decode cX0_mix 21 = .ok (.getfield 21, 3) := by decide +kernel
theorem dX0_mix_24 : decode cX0_mix 24 = .ok (.aload_n 0, 1) := by decide +kernel
theorem dX0_mix_25 : decode cX0_mix 25 = .ok (.getfield 24, 3) := by decide +kernel
theorem dX0_mix_28 : decode cX0_mix 28 = .ok (.iload_n 3, 1) := by decide +kernel
theorem dX0_mix_29 : decode cX0_mix 29 = .ok (.iastore, 1) := by decide +kernel
theorem dX0_mix_30 : decode cX0_mix 30 = .ok (.aload_n 0, 1) := by decide +kernel
theorem dX0_mix_31 : decode cX0_mix 31 = .ok (.dup, 1) := by decide +kernel
theorem dX0_mix_32 : decode cX0_mix 32 = .ok (.getfield 24, 3) := by decide +kernel
theorem dX0_mix_35 : decode cX0_mix 35 = .ok (.iconst 1, 1) := by decide +kernel
theorem dX0_mix_36 : decode cX0_mix 36 = .ok (.iadd, 1) := by decide +kernel
theorem dX0_mix_37 : decode cX0_mix 37 = .ok (.putfield 24, 3) := by decide +kernel
theorem dX0_mix_40 : decode cX0_mix 40 = .ok (.aload_n 0, 1) := by decide +kernel
theorem dX0_mix_41 : decode cX0_mix 41 = .ok (.getfield 24, 3) := by decide +kernel
theorem dX0_mix_44 : decode cX0_mix 44 = .ok (.iconst 1, 1) := by decide +kernel
theorem dX0_mix_45 : decode cX0_mix 45 = .ok (.isub, 1) := by decide +kernel
theorem dX0_mix_46 : decode cX0_mix 46 = .ok (.ireturn, 1) := by decide +kernel
theorem dX0_isRipe_0 : decode cX0_isRipe 0 = .ok (.iload_n 2, 1) := by decide +kernel
theorem dX0_isRipe_1 : decode cX0_isRipe 1 = .ok (.aload_n 0, 1) := by decide +kernel
theorem dX0_isRipe_2 : decode cX0_isRipe 2 = .ok (.getfield 21, 3) := by decide +kernel
theorem dX0_isRipe_5 : decode cX0_isRipe 5 = .ok (.iload_n 1, 1) := by decide +kernel
theorem dX0_isRipe_6 : decode cX0_isRipe 6 = .ok (.iaload, 1) := by decide +kernel
theorem dX0_isRipe_7 : decode cX0_isRipe 7 = .ok (.isub, 1) := by decide +kernel
theorem dX0_isRipe_8 : decode cX0_isRipe 8 = .ok (.aload_n 0, 1) := by decide +kernel
theorem dX0_isRipe_9 : decode cX0_isRipe 9 = .ok (.aload_n 0, 1) := by decide +kernel
theorem dX0_isRipe_10 : decode cX0_isRipe 10 = .ok (.getfield 15, 3) := by decide +kernel
theorem dX0_isRipe_13 : decode cX0_isRipe 13 = .ok (.iload_n 1, 1) := by decide +kernel
theorem dX0_isRipe_14 : decode cX0_isRipe 14 = .ok (.iaload, 1) := by decide +kernel
theorem dX0_isRipe_15 : decode cX0_isRipe 15 = .ok (.iconst 0, 1) := by decide +kernel
theorem dX0_isRipe_16 : decode cX0_isRipe 16 = .ok (.invokevirtual 31, 3) := by decide +kernel
theorem dX0_isRipe_19 : decode cX0_isRipe 19 = .ok (.if_icmp .lt 7, 3) := by decide +kernel
theorem dX0_isRipe_22 : decode cX0_isRipe 22 = .ok (.iconst 1, 1) := by decide +kernel
theorem dX0_isRipe_23 : decode cX0_isRipe 23 = .ok (.goto 4, 3) := by decide +kernel
theorem dX0_isRipe_26 : decode cX0_isRipe 26 = .ok (.iconst 0, 1) := by decide +kernel
theorem dX0_isRipe_27 : decode cX0_isRipe 27 = .ok (.ireturn, 1) := by decide +kernel
theorem dX0_bears_0 : decode cX0_bears 0 = .ok (.iload_n 2, 1) := by decide +kernel
theorem dX0_bears_1 : decode cX0_bears 1 = .ok (.aload_n 0, 1) := by decide +kernel
theorem dX0_bears_2 : decode cX0_bears 2 = .ok (.iload_n 1, 1) := by decide +kernel
theorem dX0_bears_3 : decode cX0_bears 3 = .ok (.iconst 2, 1) := by decide +kernel
theorem dX0_bears_4 : decode cX0_bears 4 = .ok (.invokevirtual 31, 3) := by decide +kernel
theorem dX0_bears_7 : decode cX0_bears 7 = .ok (.if_icmp .lt 17, 3) := by decide +kernel
theorem dX0_bears_10 : decode cX0_bears 10 = .ok (.iload_n 2, 1) := by decide +kernel
theorem dX0_bears_11 : decode cX0_bears 11 = .ok (.aload_n 0, 1) := by decide +kernel
theorem dX0_bears_12 : decode cX0_bears 12 = .ok (.iload_n 1, 1) := by decide +kernel
theorem dX0_bears_13 : decode cX0_bears 13 = .ok (.iconst 3, 1) := by decide +kernel
theorem dX0_bears_14 : decode cX0_bears 14 = .ok (.invokevirtual 31, 3) := by decide +kernel
theorem dX0_bears_17 : decode cX0_bears 17 = .ok (.if_icmp .gt 7, 3) := by decide +kernel
theorem dX0_bears_20 : decode cX0_bears 20 = .ok (.iconst 1, 1) := by decide +kernel
theorem dX0_bears_21 : decode cX0_bears 21 = .ok (.goto 4, 3) := by decide +kernel
theorem dX0_bears_24 : decode cX0_bears 24 = .ok (.iconst 0, 1) := by decide +kernel
theorem dX0_bears_25 : decode cX0_bears 25 = .ok (.ireturn, 1) := by decide +kernel
theorem dX0_shrunk_0 : decode cX0_shrunk 0 = .ok (.iload_n 2, 1) := by decide +kernel
theorem dX0_shrunk_1 : decode cX0_shrunk 1 = .ok (.iload_n 2, 1) := by decide +kernel
theorem dX0_shrunk_2 : decode cX0_shrunk 2 = .ok (.aload_n 0, 1) := by decide +kernel
theorem dX0_shrunk_3 : decode cX0_shrunk 3 = .ok (.iload_n 1, 1) := by decide +kernel
theorem dX0_shrunk_4 : decode cX0_shrunk 4 = .ok (.iconst 1, 1) := by decide +kernel
theorem dX0_shrunk_5 : decode cX0_shrunk 5 = .ok (.invokevirtual 31, 3) := by decide +kernel
theorem dX0_shrunk_8 : decode cX0_shrunk 8 = .ok (.imul, 1) := by decide +kernel
theorem dX0_shrunk_9 : decode cX0_shrunk 9 = .ok (.sipush 1000, 3) := by decide +kernel
theorem dX0_shrunk_12 : decode cX0_shrunk 12 = .ok (.idiv, 1) := by decide +kernel
theorem dX0_shrunk_13 : decode cX0_shrunk 13 = .ok (.isub, 1) := by decide +kernel
theorem dX0_shrunk_14 : decode cX0_shrunk 14 = .ok (.ireturn, 1) := by decide +kernel
theorem dX0_whiteAt_0 : decode cX0_whiteAt 0 = .ok (.aload_n 0, 1) := by decide +kernel
theorem dX0_whiteAt_1 : decode cX0_whiteAt 1 = .ok (.iload_n 1, 1) := by decide +kernel
theorem dX0_whiteAt_2 : decode cX0_whiteAt 2 = .ok (.iconst 2, 1) := by decide +kernel
theorem dX0_whiteAt_3 : decode cX0_whiteAt 3 = .ok (.invokevirtual 31, 3) := by decide +kernel
theorem dX0_whiteAt_6 : decode cX0_whiteAt 6 = .ok (.aload_n 0, 1) := by decide +kernel
theorem dX0_whiteAt_7 : decode cX0_whiteAt 7 = .ok (.iload_n 1, 1) := by decide +kernel
theorem dX0_whiteAt_8 : decode cX0_whiteAt 8 = .ok (.iconst 3, 1) := by decide +kernel
theorem dX0_whiteAt_9 : decode cX0_whiteAt 9 = .ok (.invokevirtual 31, 3) := by decide +kernel
theorem dX0_whiteAt_12 : decode cX0_whiteAt 12 = .ok (.iadd, 1) := by decide +kernel
theorem dX0_whiteAt_13 : decode cX0_whiteAt 13 = .ok (.iconst 2, 1) := by decide +kernel
theorem dX0_whiteAt_14 : decode cX0_whiteAt 14 = .ok (.idiv, 1) := by decide +kernel
theorem dX0_whiteAt_15 : decode cX0_whiteAt 15 = .ok (.istore_n 3, 1) := by decide +kernel
theorem dX0_whiteAt_16 : decode cX0_whiteAt 16 = .ok (.iconst 0, 1) := by decide +kernel
theorem dX0_whiteAt_17 : decode cX0_whiteAt 17 = .ok (.bipush 100, 2) := by decide +kernel
theorem dX0_whiteAt_19 : decode cX0_whiteAt 19 = .ok (.iload_n 2, 1) := by decide +kernel
theorem dX0_whiteAt_20 : decode cX0_whiteAt 20 = .ok (.iload_n 3, 1) := by decide +kernel
theorem dX0_whiteAt_21 : decode cX0_whiteAt 21 = .ok (.isub, 1) := by decide +kernel
theorem dX0_whiteAt_22 : decode cX0_whiteAt 22 = .ok (.invokestatic 35, 3) := by decide +kernel
theorem dX0_whiteAt_25 : decode cX0_whiteAt 25 = .ok (.iconst 5, 1) := by decide +kernel
theorem dX0_whiteAt_26 : decode cX0_whiteAt 26 = .ok (.idiv, 1) := by decide +kernel
theorem dX0_whiteAt_27 : decode cX0_whiteAt 27 = .ok (.isub, 1) := by decide +kernel
theorem dX0_whiteAt_28 : decode cX0_whiteAt 28 = .ok (.invokestatic 41, 3) := by decide +kernel
theorem dX0_whiteAt_31 : decode cX0_whiteAt 31 = .ok (.ireturn, 1) := by decide +kernel
theorem dX1_init_0 : decode cX1_init 0 = .ok (.aload_n 0, 1) := by decide +kernel
theorem dX1_init_1 : decode cX1_init 1 = .ok (.invokespecial 3, 3) := by decide +kernel
theorem dX1_init_4 : decode cX1_init 4 = .ok (.aload_n 0, 1) := by decide +kernel
theorem dX1_init_5 : decode cX1_init 5 = .ok (.bipush 24, 2) := by decide +kernel
theorem dX1_init_7 : decode cX1_init 7 = .ok (.newarray .int, 2) := by decide +kernel
theorem dX1_init_9 : decode cX1_init 9 = .ok (.putfield 9, 3) := by decide +kernel
theorem dX1_init_12 : decode cX1_init 12 = .ok (.aload_n 0, 1) := by decide +kernel
theorem dX1_init_13 : decode cX1_init 13 = .ok (.bipush 12, 2) := by decide +kernel
theorem dX1_init_15 : decode cX1_init 15 = .ok (.newarray .int, 2) := by decide +kernel
theorem dX1_init_17 : decode cX1_init 17 = .ok (.putfield 15, 3) := by decide +kernel
theorem dX1_init_20 : decode cX1_init 20 = .ok (.aload_n 0, 1) := by decide +kernel
theorem dX1_init_21 : decode cX1_init 21 = .ok (.bipush 12, 2) := by decide +kernel
theorem dX1_init_23 : decode cX1_init 23 = .ok (.newarray .int, 2) := by decide +kernel
theorem dX1_init_25 : decode cX1_init 25 = .ok (.putfield 18, 3) := by decide +kernel
theorem dX1_init_28 : decode cX1_init 28 = .ok (.aload_n 0, 1) := by decide +kernel
theorem dX1_init_29 : decode cX1_init 29 = .ok (.bipush 12, 2) := by decide +kernel
theorem dX1_init_31 : decode cX1_init 31 = .ok (.newarray .int, 2) := by decide +kernel
theorem dX1_init_33 : decode cX1_init 33 = .ok (.putfield 21, 3) := by decide +kernel
theorem dX1_init_36 : decode cX1_init 36 = .ok (.aload_n 0, 1) := by decide +kernel
theorem dX1_init_37 : decode cX1_init 37 = .ok (.bipush 12, 2) := by decide +kernel
theorem dX1_init_39 : decode cX1_init 39 = .ok (.newarray .int, 2) := by decide +kernel
theorem dX1_init_41 : decode cX1_init 41 = .ok (.putfield 24, 3) := by decide +kernel
theorem dX1_init_44 : decode cX1_init 44 = .ok (.aload_n 0, 1) := by decide +kernel
theorem dX1_init_45 : decode cX1_init 45 = .ok (.bipush 48, 2) := by decide +kernel
theorem dX1_init_47 : decode cX1_init 47 = .ok (.newarray .int, 2) := by decide +kernel
theorem dX1_init_49 : decode cX1_init 49 = .ok (.putfield 27, 3) := by decide +kernel
theorem dX1_init_52 : decode cX1_init 52 = .ok (.aload_n 0, 1) := by decide +kernel
theorem dX1_init_53 : decode cX1_init 53 = .ok (.iconst 0, 1) := by decide +kernel
theorem dX1_init_54 : decode cX1_init 54 = .ok (.putfield 30, 3) := by decide +kernel
theorem dX1_init_57 : decode cX1_init 57 = .ok (.aload_n 0, 1) := by decide +kernel
theorem dX1_init_58 : decode cX1_init 58 = .ok (.iconst 0, 1) := by decide +kernel
theorem dX1_init_59 : decode cX1_init 59 = .ok (.putfield 34, 3) := by decide +kernel
theorem dX1_init_62 : decode cX1_init 62 = .ok (.iconst 0, 1) := by decide +kernel
theorem dX1_init_63 : decode cX1_init 63 = .ok (.istore_n 1, 1) := by decide +kernel
theorem dX1_init_64 : decode cX1_init 64 = .ok (.iload_n 1, 1) := by decide +kernel
theorem dX1_init_65 : decode cX1_init 65 = .ok (.bipush 24, 2) := by decide +kernel
theorem dX1_init_67 : decode cX1_init 67 = .ok (.if_icmp .ge 22, 3) := by decide +kernel
theorem dX1_init_70 : decode cX1_init 70 = .ok (.aload_n 0, 1) := by decide +kernel
theorem dX1_init_71 : decode cX1_init 71 = .ok (.getfield 9, 3) := by decide +kernel
theorem dX1_init_74 : decode cX1_init 74 = .ok (.iload_n 1, 1) := by decide +kernel
theorem dX1_init_75 : decode cX1_init 75 = .ok (.getstatic 37, 3) := by decide +kernel
theorem dX1_init_78 : decode cX1_init 78 = .ok (.iload_n 1, 1) := by decide +kernel
theorem dX1_init_79 : decode cX1_init 79 = .ok (.iconst 2, 1) := by decide +kernel
theorem dX1_init_80 : decode cX1_init 80 = .ok (.irem, 1) := by decide +kernel
theorem dX1_init_81 : decode cX1_init 81 = .ok (.iaload, 1) := by decide +kernel
theorem dX1_init_82 : decode cX1_init 82 = .ok (.iastore, 1) := by decide +kernel
theorem dX1_init_83 : decode cX1_init 83 = .ok (.iinc 1 1, 3) := by decide +kernel
theorem dX1_init_86 : decode cX1_init 86 = .ok (.goto (-22), 3) := by decide +kernel
theorem dX1_init_89 : decode cX1_init 89 = .ok (.iconst 0, 1) := by decide +kernel
theorem dX1_init_90 : decode cX1_init 90 = .ok (.istore_n 1, 1) := by decide +kernel
theorem dX1_init_91 : decode cX1_init 91 = .ok (.iload_n 1, 1) := by decide +kernel
theorem dX1_init_92 : decode cX1_init 92 = .ok (.bipush 12, 2) := by decide +kernel
theorem dX1_init_94 : decode cX1_init 94 = .ok (.if_icmp .ge 17, 3) := by decide +kernel
theorem dX1_init_97 : decode cX1_init 97 = .ok (.aload_n 0, 1) := by decide +kernel
theorem dX1_init_98 : decode cX1_init 98 = .ok (.getfield 15, 3) := by decide +kernel
theorem dX1_init_101 : decode cX1_init 101 = .ok (.iload_n 1, 1) := by decide +kernel
theorem dX1_init_102 : decode cX1_init 102 = .ok (.bipush (-9), 2) := by decide +kernel
theorem dX1_init_104 : decode cX1_init 104 = .ok (.iastore, 1) := by decide +kernel
theorem dX1_init_105 : decode cX1_init 105 = .ok (.iinc 1 1, 3) := by decide +kernel
theorem dX1_init_108 : decode cX1_init 108 = .ok (.goto (-17), 3) := by decide +kernel
theorem dX1_init_111 : decode cX1_init 111 = .ok (.return_, 1) := by decide +kernel
theorem dX1_trait_0 : decode cX1_trait 0 = .ok (.aload_n 0, 1) := by decide +kernel
theorem dX1_trait_1 : decode cX1_trait 1 = .ok (.getfield 9, 3) := by decide +kernel
theorem dX1_trait_4 : decode cX1_trait 4 = .ok (.iload_n 1, 1) := by decide +kernel
theorem dX1_trait_5 : decode cX1_trait 5 = .ok (.iconst 2, 1) := by decide +kernel
theorem dX1_trait_6 : decode cX1_trait 6 = .ok (.imul, 1) := by decide +kernel
theorem dX1_trait_7 : decode cX1_trait 7 = .ok (.iload_n 2, 1) := by decide +kernel
theorem dX1_trait_8 : decode cX1_trait 8 = .ok (.iadd, 1) := by decide +kernel
theorem dX1_trait_9 : decode cX1_trait 9 = .ok (.iaload, 1) := by decide +kernel
theorem dX1_trait_10 : decode cX1_trait 10 = .ok (.ireturn, 1) := by decide +kernel
theorem dX1_changeTrait_0 : decode cX1_changeTrait 0 = .ok (.aload_n 0, 1) := by decide +kernel
theorem dX1_changeTrait_1 : decode cX1_changeTrait 1 = .ok (.iload_n 1, 1) := by decide +kernel
theorem dX1_changeTrait_2 : decode cX1_changeTrait 2 = .ok (.iload_n 2, 1) := by decide +kernel
theorem dX1_changeTrait_3 : decode cX1_changeTrait 3 = .ok (.invokevirtual 40, 3) := by decide +kernel
theorem dX1_changeTrait_6 : decode cX1_changeTrait 6 = .ok (.istore 4, 2) := by decide +kernel
theorem dX1_changeTrait_8 : decode cX1_changeTrait 8 = .ok (.aload_n 0, 1) := by decide +kernel
theorem dX1_changeTrait_9 : decode cX1_changeTrait 9 = .ok (.getfield 9, 3) := by decide +kernel
theorem dX1_changeTrait_12 : decode cX1_changeTrait 12 = .ok (.iload_n 1, 1) := by decide +kernel
theorem dX1_changeTrait_13 : decode cX1_changeTrait 13 = .ok (.iconst 2, 1) := by decide +kernel
theorem dX1_changeTrait_14 : decode cX1_changeTrait 14 = .ok (.imul, 1) := by decide +kernel
theorem dX1_changeTrait_15 : decode cX1_changeTrait 15 = .ok (.iload_n 2, 1) := by decide +kernel
theorem dX1_changeTrait_16 : decode cX1_changeTrait 16 = .ok (.iadd, 1) := by decide +kernel
theorem dX1_changeTrait_17 : decode cX1_changeTrait 17 = .ok (.iload_n 3, 1) := by decide +kernel
theorem dX1_changeTrait_18 : decode cX1_changeTrait 18 = .ok (.iastore, 1) := by decide +kernel
theorem dX1_changeTrait_19 : decode cX1_changeTrait 19 = .ok (.iload 4, 2) := by decide +kernel
theorem dX1_changeTrait_21 : decode cX1_changeTrait 21 = .ok (.ireturn, 1) := by decide +kernel
theorem dX1_tellHour_0 : decode cX1_tellHour 0 = .ok (.aload_n 0, 1) := by decide +kernel
theorem dX1_tellHour_1 : decode cX1_tellHour 1 = .ok (.getfield 27, 3) := by decide +kernel
theorem dX1_tellHour_4 : decode cX1_tellHour 4 = .ok (.aload_n 0, 1) := by decide +kernel
theorem dX1_tellHour_5 : decode cX1_tellHour 5 = .ok (.getfield 30, 3) := by decide +kernel
theorem dX1_tellHour_8 : decode cX1_tellHour 8 = .ok (.iload_n 1, 1) := by decide +kernel
theorem dX1_tellHour_9 : decode cX1_tellHour 9 = .ok (.iastore, 1) := by decide +kernel
theorem dX1_tellHour_10 : decode cX1_tellHour 10 = .ok (.aload_n 0, 1) := by decide +kernel
theorem dX1_tellHour_11 : decode cX1_tellHour 11 = .ok (.dup, 1) := by decide +kernel
theorem dX1_tellHour_12 : decode cX1_tellHour 12 = .ok (.getfield 30, 3) := by decide +kernel
theorem dX1_tellHour_15 : decode cX1_tellHour 15 = .ok (.iconst 1, 1) := by decide +kernel
theorem dX1_tellHour_16 : decode cX1_tellHour 16 = .ok (.iadd, 1) := by decide +kernel
theorem dX1_tellHour_17 : decode cX1_tellHour 17 = .ok (.putfield 30, 3) := by decide +kernel
theorem dX1_tellHour_20 : decode cX1_tellHour 20 = .ok (.aload_n 0, 1) := by decide +kernel
theorem dX1_tellHour_21 : decode cX1_tellHour 21 = .ok (.getfield 30, 3) := by decide +kernel
theorem dX1_tellHour_24 : decode cX1_tellHour 24 = .ok (.ireturn, 1) := by decide +kernel
theorem dX1_forgetHours_0 : decode cX1_forgetHours 0 = .ok (.aload_n 0, 1) := by decide +kernel
theorem dX1_forgetHours_1 : decode cX1_forgetHours 1 = .ok (.getfield 30, 3) := by decide +kernel
theorem dX1_forgetHours_4 : decode cX1_forgetHours 4 = .ok (.istore_n 1, 1) := by decide +kernel
theorem dX1_forgetHours_5 : decode cX1_forgetHours 5 = .ok (.aload_n 0, 1) := by decide +kernel
theorem dX1_forgetHours_6 : decode cX1_forgetHours 6 = .ok (.iconst 0, 1) := by decide +kernel
theorem dX1_forgetHours_7 : decode cX1_forgetHours 7 = .ok (.putfield 30, 3) := by decide +kernel
theorem dX1_forgetHours_10 : decode cX1_forgetHours 10 = .ok (.iload_n 1, 1) := by decide +kernel
theorem dX1_forgetHours_11 : decode cX1_forgetHours 11 = .ok (.ireturn, 1) := by decide +kernel
theorem dX1_burnHours_0 : decode cX1_burnHours 0 = .ok (.iconst 0, 1) := by decide +kernel
theorem dX1_burnHours_1 : decode cX1_burnHours 1 = .ok (.istore_n 1, 1) := by decide +kernel
theorem dX1_burnHours_2 : decode cX1_burnHours 2 = .ok (.iload_n 1, 1) := by decide +kernel
theorem dX1_burnHours_3 : decode cX1_burnHours 3 = .ok (.aload_n 0, 1) := by decide +kernel
theorem dX1_burnHours_4 : decode cX1_burnHours 4 = .ok (.getfield 30, 3) := by decide +kernel
theorem dX1_burnHours_7 : decode cX1_burnHours 7 = .ok (.if_icmp .ge 24, 3) := by decide +kernel
theorem dX1_burnHours_10 : decode cX1_burnHours 10 = .ok (.aload_n 0, 1) := by decide +kernel
theorem dX1_burnHours_11 : decode cX1_burnHours 11 = .ok (.dup, 1) := by decide +kernel
theorem dX1_burnHours_12 : decode cX1_burnHours 12 = .ok (.getfield 34, 3) := by decide +kernel
theorem dX1_burnHours_15 : decode cX1_burnHours 15 = .ok (.aload_n 0, 1) := by decide +kernel
theorem dX1_burnHours_16 : decode cX1_burnHours 16 = .ok (.getfield 27, 3) := by decide +kernel
theorem dX1_burnHours_19 : decode cX1_burnHours 19 = .ok (.iload_n 1, 1) := by decide +kernel
theorem dX1_burnHours_20 : decode cX1_burnHours 20 = .ok (.iaload, 1) := by decide +kernel
theorem dX1_burnHours_21 : decode cX1_burnHours 21 = .ok (.iadd, 1) := by decide +kernel
theorem dX1_burnHours_22 : decode cX1_burnHours 22 = .ok (.putfield 34, 3) := by decide +kernel
theorem dX1_burnHours_25 : decode cX1_burnHours 25 = .ok (.iinc 1 1, 3) := by decide +kernel
theorem dX1_burnHours_28 : decode cX1_burnHours 28 = .ok (.goto (-26), 3) := by decide +kernel
theorem dX1_burnHours_31 : decode cX1_burnHours 31 = .ok (.aload_n 0, 1) := by decide +kernel
theorem dX1_burnHours_32 : decode cX1_burnHours 32 = .ok (.iconst 0, 1) := by decide +kernel
theorem dX1_burnHours_33 : decode cX1_burnHours 33 = .ok (.putfield 30, 3) := by decide +kernel
theorem dX1_burnHours_36 : decode cX1_burnHours 36 = .ok (.return_, 1) := by decide +kernel
theorem dX1_heatUp_0 : decode cX1_heatUp 0 = .ok (.iconst 0, 1) := by decide +kernel
theorem dX1_heatUp_1 : decode cX1_heatUp 1 = .ok (.istore_n 2, 1) := by decide +kernel
theorem dX1_heatUp_2 : decode cX1_heatUp 2 = .ok (.iload_n 2, 1) := by decide +kernel
theorem dX1_heatUp_3 : decode cX1_heatUp 3 = .ok (.bipush 12, 2) := by decide +kernel
theorem dX1_heatUp_5 : decode cX1_heatUp 5 = .ok (.if_icmp .ge 23, 3) := by decide +kernel
theorem dX1_heatUp_8 : decode cX1_heatUp 8 = .ok (.aload_n 0, 1) := by decide +kernel
theorem dX1_heatUp_9 : decode cX1_heatUp 9 = .ok (.getfield 18, 3) := by decide +kernel
theorem dX1_heatUp_12 : decode cX1_heatUp 12 = .ok (.iload_n 2, 1) := by decide +kernel
theorem dX1_heatUp_13 : decode cX1_heatUp 13 = .ok (.iconst 0, 1) := by decide +kernel
theorem dX1_heatUp_14 : decode cX1_heatUp 14 = .ok (.iastore, 1) := by decide +kernel
theorem dX1_heatUp_15 : decode cX1_heatUp 15 = .ok (.aload_n 0, 1) := by decide +kernel
theorem dX1_heatUp_16 : decode cX1_heatUp 16 = .ok (.getfield 24, 3) := by decide +kernel
theorem dX1_heatUp_19 : decode cX1_heatUp 19 = .ok (.iload_n 2, 1) := by decide +kernel
theorem dX1_heatUp_20 : decode cX1_heatUp 20 = .ok (.iconst 0, 1) := by decide +kernel
theorem dX1_heatUp_21 : decode cX1_heatUp 21 = .ok (.iastore, 1) := by decide +kernel
theorem dX1_heatUp_22 : decode cX1_heatUp 22 = .ok (.iinc 2 1, 3) := by decide +kernel
theorem dX1_heatUp_25 : decode cX1_heatUp 25 = .ok (.goto (-23), 3) := by decide +kernel
theorem dX1_heatUp_28 : decode cX1_heatUp 28 = .ok (.iconst 0, 1) := by decide +kernel
theorem dX1_heatUp_29 : decode cX1_heatUp 29 = .ok (.istore_n 2, 1) := by decide +kernel
theorem dX1_heatUp_30 : decode cX1_heatUp 30 = .ok (.iload_n 2, 1) := by decide +kernel
theorem dX1_heatUp_31 : decode cX1_heatUp 31 = .ok (.iload_n 1, 1) := by decide +kernel
theorem dX1_heatUp_32 : decode cX1_heatUp 32 = .ok (.if_icmp .ge 19, 3) := by decide +kernel
theorem dX1_heatUp_35 : decode cX1_heatUp 35 = .ok (.aload_n 0, 1) := by decide +kernel
theorem dX1_heatUp_36 : decode cX1_heatUp 36 = .ok (.aload_n 0, 1) := by decide +kernel
theorem dX1_heatUp_37 : decode cX1_heatUp 37 = .ok (.getfield 27, 3) := by decide +kernel
theorem dX1_heatUp_40 : decode cX1_heatUp 40 = .ok (.iload_n 2, 1) := by decide +kernel
theorem dX1_heatUp_41 : decode cX1_heatUp 41 = .ok (.iaload, 1) := by decide +kernel
theorem dX1_heatUp_42 : decode cX1_heatUp 42 = .ok (.invokevirtual 44, 3) := by decide +kernel
theorem dX1_heatUp_45 : decode cX1_heatUp 45 = .ok (.iinc 2 1, 3) := by decide +kernel
theorem dX1_heatUp_48 : decode cX1_heatUp 48 = .ok (.goto (-18), 3) := by decide +kernel
theorem dX1_heatUp_51 : decode cX1_heatUp 51 = .ok (.return_, 1) := by decide +kernel
theorem dX1_heatHour_0 : decode cX1_heatHour 0 = .ok (.iconst 0, 1) := by decide +kernel
theorem dX1_heatHour_1 : decode cX1_heatHour 1 = .ok (.istore_n 2, 1) := by decide +kernel
theorem dX1_heatHour_2 : decode cX1_heatHour 2 = .ok (.iload_n 2, 1) := by decide +kernel
theorem dX1_heatHour_3 : decode cX1_heatHour 3 = .ok (.bipush 12, 2) := by decide +kernel
theorem dX1_heatHour_5 : decode cX1_heatHour 5 = .ok (.if_icmp .ge 48, 3) := by decide +kernel
theorem dX1_heatHour_8 : decode cX1_heatHour 8 = .ok (.aload_n 0, 1) := by decide +kernel
theorem dX1_heatHour_9 : decode cX1_heatHour 9 = .ok (.getfield 21, 3) := by decide +kernel
theorem dX1_heatHour_12 : decode cX1_heatHour 12 = .ok (.iload_n 2, 1) := by decide +kernel
theorem dX1_heatHour_13 : decode cX1_heatHour 13 = .ok (.aload_n 0, 1) := by decide +kernel
theorem dX1_heatHour_14 : decode cX1_heatHour 14 = .ok (.getfield 18, 3) := by decide +kernel
theorem dX1_heatHour_17 : decode cX1_heatHour 17 = .ok (.iload_n 2, 1) := by decide +kernel
theorem dX1_heatHour_18 : decode cX1_heatHour 18 = .ok (.iaload, 1) := by decide +kernel
theorem dX1_heatHour_19 : decode cX1_heatHour 19 = .ok (.aload_n 0, 1) := by decide +kernel
theorem dX1_heatHour_20 : decode cX1_heatHour 20 = .ok (.iload_n 2, 1) := by decide +kernel
theorem dX1_heatHour_21 : decode cX1_heatHour 21 = .ok (.iconst 0, 1) := by decide +kernel
theorem dX1_heatHour_22 : decode cX1_heatHour 22 = .ok (.invokevirtual 40, 3) := by decide +kernel
theorem dX1_heatHour_25 : decode cX1_heatHour 25 = .ok (.iload_n 1, 1) := by decide +kernel
theorem dX1_heatHour_26 : decode cX1_heatHour 26 = .ok (.imul, 1) := by decide +kernel
theorem dX1_heatHour_27 : decode cX1_heatHour 27 = .ok (.iadd, 1) := by decide +kernel
theorem dX1_heatHour_28 : decode cX1_heatHour 28 = .ok (.aload_n 0, 1) := by decide +kernel
theorem dX1_heatHour_29 : decode cX1_heatHour 29 = .ok (.getfield 18, 3) := by decide +kernel
theorem dX1_heatHour_32 : decode cX1_heatHour 32 = .ok (.iload_n 2, 1) := by decide +kernel
theorem dX1_heatHour_33 : decode cX1_heatHour 33 = .ok (.iaload, 1) := by decide +kernel
theorem dX1_heatHour_34 : decode cX1_heatHour 34 = .ok (.aload_n 0, 1) := by decide +kernel
theorem dX1_heatHour_35 : decode cX1_heatHour 35 = .ok (.iload_n 2, 1) := by decide +kernel
theorem dX1_heatHour_36 : decode cX1_heatHour 36 = .ok (.iconst 1, 1) := by decide +kernel
theorem dX1_heatHour_37 : decode cX1_heatHour 37 = .ok (.invokevirtual 40, 3) := by decide +kernel
theorem dX1_heatHour_40 : decode cX1_heatHour 40 = .ok (.imul, 1) := by decide +kernel
theorem dX1_heatHour_41 : decode cX1_heatHour 41 = .ok (.sipush 1000, 3) := by decide +kernel
theorem dX1_heatHour_44 : decode cX1_heatHour 44 = .ok (.idiv, 1) := by decide +kernel
theorem dX1_heatHour_45 : decode cX1_heatHour 45 = .ok (.isub, 1) := by decide +kernel
theorem dX1_heatHour_46 : decode cX1_heatHour 46 = .ok (.iastore, 1) := by decide +kernel
theorem dX1_heatHour_47 : decode cX1_heatHour 47 = .ok (.iinc 2 1, 3) := by decide +kernel
theorem dX1_heatHour_50 : decode cX1_heatHour 50 = .ok (.goto (-48), 3) := by decide +kernel
theorem dX1_heatHour_53 : decode cX1_heatHour 53 = .ok (.iconst 0, 1) := by decide +kernel
theorem dX1_heatHour_54 : decode cX1_heatHour 54 = .ok (.istore_n 2, 1) := by decide +kernel
theorem dX1_heatHour_55 : decode cX1_heatHour 55 = .ok (.iload_n 2, 1) := by decide +kernel
theorem dX1_heatHour_56 : decode cX1_heatHour 56 = .ok (.bipush 12, 2) := by decide +kernel
theorem dX1_heatHour_58 : decode cX1_heatHour 58 = .ok (.if_icmp .ge 51, 3) := by decide +kernel
theorem dX1_heatHour_61 : decode cX1_heatHour 61 = .ok (.aload_n 0, 1) := by decide +kernel
theorem dX1_heatHour_62 : decode cX1_heatHour 62 = .ok (.getfield 18, 3) := by decide +kernel
theorem dX1_heatHour_65 : decode cX1_heatHour 65 = .ok (.iload_n 2, 1) := by decide +kernel
theorem dX1_heatHour_66 : decode cX1_heatHour 66 = .ok (.aload_n 0, 1) := by decide +kernel
theorem dX1_heatHour_67 : decode cX1_heatHour 67 = .ok (.getfield 21, 3) := by decide +kernel
theorem dX1_heatHour_70 : decode cX1_heatHour 70 = .ok (.iload_n 2, 1) := by decide +kernel
theorem dX1_heatHour_71 : decode cX1_heatHour 71 = .ok (.iaload, 1) := by decide +kernel
theorem dX1_heatHour_72 : decode cX1_heatHour 72 = .ok (.aload_n 0, 1) := by decide +kernel
theorem dX1_heatHour_73 : decode cX1_heatHour 73 = .ok (.iload_n 2, 1) := by decide +kernel
theorem dX1_heatHour_74 : decode cX1_heatHour 74 = .ok (.invokevirtual 48, 3) := by decide +kernel
theorem dX1_heatHour_77 : decode cX1_heatHour 77 = .ok (.bipush 10, 2) := by decide +kernel
theorem dX1_heatHour_79 : decode cX1_heatHour 79 = .ok (.idiv, 1) := by decide +kernel
theorem dX1_heatHour_80 : decode cX1_heatHour 80 = .ok (.iadd, 1) := by decide +kernel
theorem dX1_heatHour_81 : decode cX1_heatHour 81 = .ok (.iastore, 1) := by decide +kernel
theorem dX1_heatHour_82 : decode cX1_heatHour 82 = .ok (.aload_n 0, 1) := by decide +kernel
theorem dX1_heatHour_83 : decode cX1_heatHour 83 = .ok (.getfield 24, 3) := by decide +kernel
theorem dX1_heatHour_86 : decode cX1_heatHour 86 = .ok (.iload_n 2, 1) := by decide +kernel
theorem dX1_heatHour_87 : decode cX1_heatHour 87 = .ok (.aload_n 0, 1) := by decide +kernel
theorem dX1_heatHour_88 : decode cX1_heatHour 88 = .ok (.getfield 24, 3) := by decide +kernel
theorem dX1_heatHour_91 : decode cX1_heatHour 91 = .ok (.iload_n 2, 1) := by decide +kernel
theorem dX1_heatHour_92 : decode cX1_heatHour 92 = .ok (.iaload, 1) := by decide +kernel
theorem dX1_heatHour_93 : decode cX1_heatHour 93 = .ok (.aload_n 0, 1) := by decide +kernel
theorem dX1_heatHour_94 : decode cX1_heatHour 94 = .ok (.getfield 18, 3) := by decide +kernel
theorem dX1_heatHour_97 : decode cX1_heatHour 97 = .ok (.iload_n 2, 1) := by decide +kernel
theorem dX1_heatHour_98 : decode cX1_heatHour 98 = .ok (.iaload, 1) := by decide +kernel
theorem dX1_heatHour_99 : decode cX1_heatHour 99 = .ok (.invokestatic 52, 3) := by decide +kernel
theorem dX1_heatHour_102 : decode cX1_heatHour 102 = .ok (.iastore, 1) := by decide +kernel
theorem dX1_heatHour_103 : decode cX1_heatHour 103 = .ok (.iinc 2 1, 3) := by decide +kernel
theorem dX1_heatHour_106 : decode cX1_heatHour 106 = .ok (.goto (-51), 3) := by decide +kernel
theorem dX1_heatHour_109 : decode cX1_heatHour 109 = .ok (.return_, 1) := by decide +kernel
theorem dX1_besideAbove_0 : decode cX1_besideAbove 0 = .ok (.iconst 0, 1) := by decide +kernel
theorem dX1_besideAbove_1 : decode cX1_besideAbove 1 = .ok (.istore_n 2, 1) := by decide +kernel
theorem dX1_besideAbove_2 : decode cX1_besideAbove 2 = .ok (.iload_n 1, 1) := by decide +kernel
theorem dX1_besideAbove_3 : decode cX1_besideAbove 3 = .ok (.ifCond .le 21, 3) := by decide +kernel
theorem dX1_besideAbove_6 : decode cX1_besideAbove 6 = .ok (.iload_n 2, 1) := by decide +kernel
theorem dX1_besideAbove_7 : decode cX1_besideAbove 7 = .ok (.aload_n 0, 1) := by decide +kernel
theorem dX1_besideAbove_8 : decode cX1_besideAbove 8 = .ok (.getfield 21, 3) := by decide +kernel
theorem dX1_besideAbove_11 : decode cX1_besideAbove 11 = .ok (.iload_n 1, 1) := by decide +kernel
theorem dX1_besideAbove_12 : decode cX1_besideAbove 12 = .ok (.iconst 1, 1) := by decide +kernel
theorem dX1_besideAbove_13 : decode cX1_besideAbove 13 = .ok (.isub, 1) := by decide +kernel
theorem dX1_besideAbove_14 : decode cX1_besideAbove 14 = .ok (.iaload, 1) := by decide +kernel
theorem dX1_besideAbove_15 : decode cX1_besideAbove 15 = .ok (.aload_n 0, 1) := by decide +kernel
theorem dX1_besideAbove_16 : decode cX1_besideAbove 16 = .ok (.getfield 21, 3) := by decide +kernel
theorem dX1_besideAbove_19 : decode cX1_besideAbove 19 = .ok (.iload_n 1, 1) := by decide +kernel
theorem dX1_besideAbove_20 : decode cX1_besideAbove 20 = .ok (.iaload, 1) := by decide +kernel
theorem dX1_besideAbove_21 : decode cX1_besideAbove 21 = .ok (.isub, 1) := by decide +kernel
theorem dX1_besideAbove_22 : decode cX1_besideAbove 22 = .ok (.iadd, 1) := by decide +kernel
theorem dX1_besideAbove_23 : decode cX1_besideAbove 23 = .ok (.istore_n 2, 1) := by decide +kernel
theorem dX1_besideAbove_24 : decode cX1_besideAbove 24 = .ok (.iload_n 1, 1) := by decide +kernel
theorem dX1_besideAbove_25 : decode cX1_besideAbove 25 = .ok (.bipush 11, 2) := by decide +kernel
theorem dX1_besideAbove_27 : decode cX1_besideAbove 27 = .ok (.if_icmp .ge 21, 3) := by decide +kernel
theorem dX1_besideAbove_30 : decode cX1_besideAbove 30 = .ok (.iload_n 2, 1) := by decide +kernel
theorem dX1_besideAbove_31 : decode cX1_besideAbove 31 = .ok (.aload_n 0, 1) := by decide +kernel
theorem dX1_besideAbove_32 : decode cX1_besideAbove 32 = .ok (.getfield 21, 3) := by decide +kernel
theorem dX1_besideAbove_35 : decode cX1_besideAbove 35 = .ok (.iload_n 1, 1) := by decide +kernel
theorem dX1_besideAbove_36 : decode cX1_besideAbove 36 = .ok (.iconst 1, 1) := by decide +kernel
theorem dX1_besideAbove_37 : decode cX1_besideAbove 37 = .ok (.iadd, 1) := by decide +kernel
theorem dX1_besideAbove_38 : decode cX1_besideAbove 38 = .ok (.iaload, 1) := by decide +kernel
theorem dX1_besideAbove_39 : decode cX1_besideAbove 39 = .ok (.aload_n 0, 1) := by decide +kernel
theorem dX1_besideAbove_40 : decode cX1_besideAbove 40 = .ok (.getfield 21, 3) := by decide +kernel
theorem dX1_besideAbove_43 : decode cX1_besideAbove 43 = .ok (.iload_n 1, 1) := by decide +kernel
theorem dX1_besideAbove_44 : decode cX1_besideAbove 44 = .ok (.iaload, 1) := by decide +kernel
theorem dX1_besideAbove_45 : decode cX1_besideAbove 45 = .ok (.isub, 1) := by decide +kernel
theorem dX1_besideAbove_46 : decode cX1_besideAbove 46 = .ok (.iadd, 1) := by decide +kernel
theorem dX1_besideAbove_47 : decode cX1_besideAbove 47 = .ok (.istore_n 2, 1) := by decide +kernel
theorem dX1_besideAbove_48 : decode cX1_besideAbove 48 = .ok (.iload_n 2, 1) := by decide +kernel
theorem dX1_besideAbove_49 : decode cX1_besideAbove 49 = .ok (.ireturn, 1) := by decide +kernel
theorem dX2_init_0 : decode cX2_init 0 = .ok (.aload_n 0, 1) := by decide +kernel
theorem dX2_init_1 : decode cX2_init 1 = .ok (.invokespecial 3, 3) := by decide +kernel
theorem dX2_init_4 : decode cX2_init 4 = .ok (.aload_n 0, 1) := by decide +kernel
theorem dX2_init_5 : decode cX2_init 5 = .ok (.bipush 6, 2) := by decide +kernel
theorem dX2_init_7 : decode cX2_init 7 = .ok (.newarray .int, 2) := by decide +kernel
theorem dX2_init_9 : decode cX2_init 9 = .ok (.putfield 9, 3) := by decide +kernel
theorem dX2_init_12 : decode cX2_init 12 = .ok (.aload_n 0, 1) := by decide +kernel
theorem dX2_init_13 : decode cX2_init 13 = .ok (.bipush 6, 2) := by decide +kernel
theorem dX2_init_15 : decode cX2_init 15 = .ok (.newarray .int, 2) := by decide +kernel
theorem dX2_init_17 : decode cX2_init 17 = .ok (.putfield 15, 3) := by decide +kernel
theorem dX2_init_20 : decode cX2_init 20 = .ok (.aload_n 0, 1) := by decide +kernel
theorem dX2_init_21 : decode cX2_init 21 = .ok (.bipush 6, 2) := by decide +kernel
theorem dX2_init_23 : decode cX2_init 23 = .ok (.newarray .int, 2) := by decide +kernel
theorem dX2_init_25 : decode cX2_init 25 = .ok (.putfield 18, 3) := by decide +kernel
theorem dX2_init_28 : decode cX2_init 28 = .ok (.aload_n 0, 1) := by decide +kernel
theorem dX2_init_29 : decode cX2_init 29 = .ok (.iconst 0, 1) := by decide +kernel
theorem dX2_init_30 : decode cX2_init 30 = .ok (.putfield 21, 3) := by decide +kernel
theorem dX2_init_33 : decode cX2_init 33 = .ok (.return_, 1) := by decide +kernel
theorem dX2_lend_0 : decode cX2_lend 0 = .ok (.aload_n 0, 1) := by decide +kernel
theorem dX2_lend_1 : decode cX2_lend 1 = .ok (.getfield 9, 3) := by decide +kernel
theorem dX2_lend_4 : decode cX2_lend 4 = .ok (.aload_n 0, 1) := by decide +kernel
theorem dX2_lend_5 : decode cX2_lend 5 = .ok (.getfield 21, 3) := by decide +kernel
theorem dX2_lend_8 : decode cX2_lend 8 = .ok (.iload_n 1, 1) := by decide +kernel
theorem dX2_lend_9 : decode cX2_lend 9 = .ok (.iastore, 1) := by decide +kernel
theorem dX2_lend_10 : decode cX2_lend 10 = .ok (.aload_n 0, 1) := by decide +kernel
theorem dX2_lend_11 : decode cX2_lend 11 = .ok (.getfield 15, 3) := by decide +kernel
theorem dX2_lend_14 : decode cX2_lend 14 = .ok (.aload_n 0, 1) := by decide +kernel
theorem dX2_lend_15 : decode cX2_lend 15 = .ok (.getfield 21, 3) := by decide +kernel
theorem dX2_lend_18 : decode cX2_lend 18 = .ok (.iload_n 2, 1) := by decide +kernel
theorem dX2_lend_19 : decode cX2_lend 19 = .ok (.iastore, 1) := by decide +kernel
theorem dX2_lend_20 : decode cX2_lend 20 = .ok (.aload_n 0, 1) := by decide +kernel
theorem dX2_lend_21 : decode cX2_lend 21 = .ok (.getfield 18, 3) := by decide +kernel
theorem dX2_lend_24 : decode cX2_lend 24 = .ok (.aload_n 0, 1) := by decide +kernel
theorem dX2_lend_25 : decode cX2_lend 25 = .ok (.getfield 21, 3) := by decide +kernel
theorem dX2_lend_28 : decode cX2_lend 28 = .ok (.iload_n 3, 1) := by decide +kernel
theorem dX2_lend_29 : decode cX2_lend 29 = .ok (.iastore, 1) := by decide +kernel
theorem dX2_lend_30 : decode cX2_lend 30 = .ok (.aload_n 0, 1) := by decide +kernel
theorem dX2_lend_31 : decode cX2_lend 31 = .ok (.dup, 1) := by decide +kernel
theorem dX2_lend_32 : decode cX2_lend 32 = .ok (.getfield 21, 3) := by decide +kernel
theorem dX2_lend_35 : decode cX2_lend 35 = .ok (.iconst 1, 1) := by decide +kernel
theorem dX2_lend_36 : decode cX2_lend 36 = .ok (.iadd, 1) := by decide +kernel
theorem dX2_lend_37 : decode cX2_lend 37 = .ok (.putfield 21, 3) := by decide +kernel
theorem dX2_lend_40 : decode cX2_lend 40 = .ok (.aload_n 0, 1) := by decide +kernel
theorem dX2_lend_41 : decode cX2_lend 41 = .ok (.getfield 21, 3) := by decide +kernel
theorem dX2_lend_44 : decode cX2_lend 44 = .ok (.iconst 1, 1) := by decide +kernel
theorem dX2_lend_45 : decode cX2_lend 45 = .ok (.isub, 1) := by decide +kernel
theorem dX2_lend_46 : decode cX2_lend 46 = .ok (.ireturn, 1) := by decide +kernel
theorem dX2_pass_0 : decode cX2_pass 0 = .ok (.iconst 0, 1) := by decide +kernel
theorem dX2_pass_1 : decode cX2_pass 1 = .ok (.istore_n 3, 1) := by decide +kernel
theorem dX2_pass_2 : decode cX2_pass 2 = .ok (.iload_n 3, 1) := by decide +kernel
theorem dX2_pass_3 : decode cX2_pass 3 = .ok (.aload_n 0, 1) := by decide +kernel
theorem dX2_pass_4 : decode cX2_pass 4 = .ok (.getfield 21, 3) := by decide +kernel
theorem dX2_pass_7 : decode cX2_pass 7 = .ok (.if_icmp .ge 22, 3) := by decide +kernel
theorem dX2_pass_10 : decode cX2_pass 10 = .ok (.aload_n 0, 1) := by decide +kernel
theorem dX2_pass_11 : decode cX2_pass 11 = .ok (.getfield 9, 3) := by decide +kernel
theorem dX2_pass_14 : decode cX2_pass 14 = .ok (.iload_n 3, 1) := by decide +kernel
theorem dX2_pass_15 : decode cX2_pass 15 = .ok (.aload_n 0, 1) := by decide +kernel
theorem dX2_pass_16 : decode cX2_pass 16 = .ok (.iload_n 3, 1) := by decide +kernel
theorem dX2_pass_17 : decode cX2_pass 17 = .ok (.iload_n 1, 1) := by decide +kernel
theorem dX2_pass_18 : decode cX2_pass 18 = .ok (.iload_n 2, 1) := by decide +kernel
theorem dX2_pass_19 : decode cX2_pass 19 = .ok (.invokevirtual 25, 3) := by decide +kernel
theorem dX2_pass_22 : decode cX2_pass 22 = .ok (.iastore, 1) := by decide +kernel
theorem dX2_pass_23 : decode cX2_pass 23 = .ok (.iinc 3 1, 3) := by decide +kernel
theorem dX2_pass_26 : decode cX2_pass 26 = .ok (.goto (-24), 3) := by decide +kernel
theorem dX2_pass_29 : decode cX2_pass 29 = .ok (.return_, 1) := by decide +kernel
theorem dX2_sumAfter_0 : decode cX2_sumAfter 0 = .ok (.iload_n 2, 1) := by decide +kernel
theorem dX2_sumAfter_1 : decode cX2_sumAfter 1 = .ok (.aload_n 0, 1) := by decide +kernel
theorem dX2_sumAfter_2 : decode cX2_sumAfter 2 = .ok (.getfield 18, 3) := by decide +kernel
theorem dX2_sumAfter_5 : decode cX2_sumAfter 5 = .ok (.iload_n 1, 1) := by decide +kernel
theorem dX2_sumAfter_6 : decode cX2_sumAfter 6 = .ok (.iaload, 1) := by decide +kernel
theorem dX2_sumAfter_7 : decode cX2_sumAfter 7 = .ok (.isub, 1) := by decide +kernel
theorem dX2_sumAfter_8 : decode cX2_sumAfter 8 = .ok (.istore 4, 2) := by decide +kernel
theorem dX2_sumAfter_10 : decode cX2_sumAfter 10 = .ok (.iload 4, 2) := by decide +kernel
theorem dX2_sumAfter_12 : decode cX2_sumAfter 12 = .ok (.iload_n 3, 1) := by decide +kernel
theorem dX2_sumAfter_13 : decode cX2_sumAfter 13 = .ok (.iadd, 1) := by decide +kernel
theorem dX2_sumAfter_14 : decode cX2_sumAfter 14 = .ok (.bipush 30, 2) := by decide +kernel
theorem dX2_sumAfter_16 : decode cX2_sumAfter 16 = .ok (.idiv, 1) := by decide +kernel
theorem dX2_sumAfter_17 : decode cX2_sumAfter 17 = .ok (.iload 4, 2) := by decide +kernel
theorem dX2_sumAfter_19 : decode cX2_sumAfter 19 = .ok (.bipush 30, 2) := by decide +kernel
theorem dX2_sumAfter_21 : decode cX2_sumAfter 21 = .ok (.idiv, 1) := by decide +kernel
theorem dX2_sumAfter_22 : decode cX2_sumAfter 22 = .ok (.isub, 1) := by decide +kernel
theorem dX2_sumAfter_23 : decode cX2_sumAfter 23 = .ok (.istore 5, 2) := by decide +kernel
theorem dX2_sumAfter_25 : decode cX2_sumAfter 25 = .ok (.aload_n 0, 1) := by decide +kernel
theorem dX2_sumAfter_26 : decode cX2_sumAfter 26 = .ok (.getfield 9, 3) := by decide +kernel
theorem dX2_sumAfter_29 : decode cX2_sumAfter 29 = .ok (.iload_n 1, 1) := by decide +kernel
theorem dX2_sumAfter_30 : decode cX2_sumAfter 30 = .ok (.iaload, 1) := by decide +kernel
theorem dX2_sumAfter_31 : decode cX2_sumAfter 31 = .ok (.i2l, 1) := by decide +kernel
theorem dX2_sumAfter_32 : decode cX2_sumAfter 32 = .ok (.lstore 6, 2) := by decide +kernel
theorem dX2_sumAfter_34 : decode cX2_sumAfter 34 = .ok (.iconst 0, 1) := by decide +kernel
theorem dX2_sumAfter_35 : decode cX2_sumAfter 35 = .ok (.istore 8, 2) := by decide +kernel
theorem dX2_sumAfter_37 : decode cX2_sumAfter 37 = .ok (.iload 8, 2) := by decide +kernel
theorem dX2_sumAfter_39 : decode cX2_sumAfter 39 = .ok (.iload 5, 2) := by decide +kernel
theorem dX2_sumAfter_41 : decode cX2_sumAfter 41 = .ok (.if_icmp .ge 34, 3) := by decide +kernel
theorem dX2_sumAfter_44 : decode cX2_sumAfter 44 = .ok (.ldc2_w 29, 3) := by decide +kernel
theorem dX2_sumAfter_47 : decode cX2_sumAfter 47 = .ok (.lload 6, 2) := by decide +kernel
theorem dX2_sumAfter_49 : decode cX2_sumAfter 49 = .ok (.lload 6, 2) := by decide +kernel
theorem dX2_sumAfter_51 : decode cX2_sumAfter 51 = .ok (.aload_n 0, 1) := by decide +kernel
theorem dX2_sumAfter_52 : decode cX2_sumAfter 52 = .ok (.getfield 15, 3) := by decide +kernel
theorem dX2_sumAfter_55 : decode cX2_sumAfter 55 = .ok (.iload_n 1, 1) := by decide +kernel
theorem dX2_sumAfter_56 : decode cX2_sumAfter 56 = .ok (.iaload, 1) := by decide +kernel
theorem dX2_sumAfter_57 : decode cX2_sumAfter 57 = .ok (.i2l, 1) := by decide +kernel
theorem dX2_sumAfter_58 : decode cX2_sumAfter 58 = .ok (.lmul, 1) := by decide +kernel
theorem dX2_sumAfter_59 : decode cX2_sumAfter 59 = .ok (.ldc2_w 31, 3) := by decide +kernel
theorem dX2_sumAfter_62 : decode cX2_sumAfter 62 = .ok (.ldiv, 1) := by decide +kernel
theorem dX2_sumAfter_63 : decode cX2_sumAfter 63 = .ok (.ladd, 1) := by decide +kernel
theorem dX2_sumAfter_64 : decode cX2_sumAfter 64 = .ok (.invokestatic 33, 3) := by decide +kernel
theorem dX2_sumAfter_67 : decode cX2_sumAfter 67 = .ok (.lstore 6, 2) := by decide +kernel
theorem dX2_sumAfter_69 : decode cX2_sumAfter 69 = .ok (.iinc 8 1, 3) := by decide +kernel
theorem dX2_sumAfter_72 : decode cX2_sumAfter 72 = .ok (.goto (-35), 3) := by decide +kernel
theorem dX2_sumAfter_75 : decode cX2_sumAfter 75 = .ok (.lload 6, 2) := by decide +kernel
theorem dX2_sumAfter_77 : decode cX2_sumAfter 77 = .ok (.l2i, 1) := by decide +kernel
theorem dX2_sumAfter_78 : decode cX2_sumAfter 78 = .ok (.ireturn, 1) := by decide +kernel
theorem dX3_init_0 : decode cX3_init 0 = .ok (.aload_n 0, 1) := by decide +kernel
theorem dX3_init_1 : decode cX3_init 1 = .ok (.invokespecial 3, 3) := by decide +kernel
theorem dX3_init_4 : decode cX3_init 4 = .ok (.aload_n 0, 1) := by decide +kernel
theorem dX3_init_5 : decode cX3_init 5 = .ok (.bipush 80, 2) := by decide +kernel
theorem dX3_init_7 : decode cX3_init 7 = .ok (.newarray .int, 2) := by decide +kernel
theorem dX3_init_9 : decode cX3_init 9 = .ok (.putfield 9, 3) := by decide +kernel
theorem dX3_init_12 : decode cX3_init 12 = .ok (.aload_n 0, 1) := by decide +kernel
theorem dX3_init_13 : decode cX3_init 13 = .ok (.bipush 80, 2) := by decide +kernel
theorem dX3_init_15 : decode cX3_init 15 = .ok (.newarray .int, 2) := by decide +kernel
theorem dX3_init_17 : decode cX3_init 17 = .ok (.putfield 15, 3) := by decide +kernel
theorem dX3_init_20 : decode cX3_init 20 = .ok (.aload_n 0, 1) := by decide +kernel
theorem dX3_init_21 : decode cX3_init 21 = .ok (.bipush 12, 2) := by decide +kernel
theorem dX3_init_23 : decode cX3_init 23 = .ok (.newarray .int, 2) := by decide +kernel
theorem dX3_init_25 : decode cX3_init 25 = .ok (.putfield 18, 3) := by decide +kernel
theorem dX3_init_28 : decode cX3_init 28 = .ok (.aload_n 0, 1) := by decide +kernel
theorem dX3_init_29 : decode cX3_init 29 = .ok (.iconst 0, 1) := by decide +kernel
theorem dX3_init_30 : decode cX3_init 30 = .ok (.putfield 21, 3) := by decide +kernel
theorem dX3_init_33 : decode cX3_init 33 = .ok (.aload_n 0, 1) := by decide +kernel
theorem dX3_init_34 : decode cX3_init 34 = .ok (.iconst 0, 1) := by decide +kernel
theorem dX3_init_35 : decode cX3_init 35 = .ok (.putfield 25, 3) := by decide +kernel
theorem dX3_init_38 : decode cX3_init 38 = .ok (.aload_n 0, 1) := by decide +kernel
theorem dX3_init_39 : decode cX3_init 39 = .ok (.iconst 0, 1) := by decide +kernel
theorem dX3_init_40 : decode cX3_init 40 = .ok (.putfield 28, 3) := by decide +kernel
theorem dX3_init_43 : decode cX3_init 43 = .ok (.return_, 1) := by decide +kernel
theorem dX3_find_0 : decode cX3_find 0 = .ok (.aload_n 0, 1) := by decide +kernel
theorem dX3_find_1 : decode cX3_find 1 = .ok (.iload_n 1, 1) := by decide +kernel
theorem dX3_find_2 : decode cX3_find 2 = .ok (.aload 4, 2) := by decide +kernel
theorem dX3_find_4 : decode cX3_find 4 = .ok (.invokevirtual 31, 3) := by decide +kernel
theorem dX3_find_7 : decode cX3_find 7 = .ok (.aload_n 0, 1) := by decide +kernel
theorem dX3_find_8 : decode cX3_find 8 = .ok (.iconst 0, 1) := by decide +kernel
theorem dX3_find_9 : decode cX3_find 9 = .ok (.putfield 28, 3) := by decide +kernel
theorem dX3_find_12 : decode cX3_find 12 = .ok (.iconst 0, 1) := by decide +kernel
theorem dX3_find_13 : decode cX3_find 13 = .ok (.istore 5, 2) := by decide +kernel
theorem dX3_find_15 : decode cX3_find 15 = .ok (.iload 5, 2) := by decide +kernel
theorem dX3_find_17 : decode cX3_find 17 = .ok (.iload_n 2, 1) := by decide +kernel
theorem dX3_find_18 : decode cX3_find 18 = .ok (.iadd, 1) := by decide +kernel
theorem dX3_find_19 : decode cX3_find 19 = .ok (.aload_n 0, 1) := by decide +kernel
theorem dX3_find_20 : decode cX3_find 20 = .ok (.getfield 21, 3) := by decide +kernel
theorem dX3_find_23 : decode cX3_find 23 = .ok (.if_icmp .gt 45, 3) := by decide +kernel
theorem dX3_find_26 : decode cX3_find 26 = .ok (.aload_n 0, 1) := by decide +kernel
theorem dX3_find_27 : decode cX3_find 27 = .ok (.getfield 15, 3) := by decide +kernel
theorem dX3_find_30 : decode cX3_find 30 = .ok (.iload 5, 2) := by decide +kernel
theorem dX3_find_32 : decode cX3_find 32 = .ok (.iaload, 1) := by decide +kernel
theorem dX3_find_33 : decode cX3_find 33 = .ok (.aload_n 0, 1) := by decide +kernel
theorem dX3_find_34 : decode cX3_find 34 = .ok (.getfield 15, 3) := by decide +kernel
theorem dX3_find_37 : decode cX3_find 37 = .ok (.iload 5, 2) := by decide +kernel
theorem dX3_find_39 : decode cX3_find 39 = .ok (.iload_n 2, 1) := by decide +kernel
theorem dX3_find_40 : decode cX3_find 40 = .ok (.iadd, 1) := by decide +kernel
theorem dX3_find_41 : decode cX3_find 41 = .ok (.iconst 1, 1) := by decide +kernel
theorem dX3_find_42 : decode cX3_find 42 = .ok (.isub, 1) := by decide +kernel
theorem dX3_find_43 : decode cX3_find 43 = .ok (.iaload, 1) := by decide +kernel
theorem dX3_find_44 : decode cX3_find 44 = .ok (.isub, 1) := by decide +kernel
theorem dX3_find_45 : decode cX3_find 45 = .ok (.iload_n 3, 1) := by decide +kernel
theorem dX3_find_46 : decode cX3_find 46 = .ok (.if_icmp .gt 16, 3) := by decide +kernel
theorem dX3_find_49 : decode cX3_find 49 = .ok (.aload_n 0, 1) := by decide +kernel
theorem dX3_find_50 : decode cX3_find 50 = .ok (.iload 5, 2) := by decide +kernel
theorem dX3_find_52 : decode cX3_find 52 = .ok (.putfield 25, 3) := by decide +kernel
theorem dX3_find_55 : decode cX3_find 55 = .ok (.aload_n 0, 1) := by decide +kernel
theorem dX3_find_56 : decode cX3_find 56 = .ok (.iload_n 2, 1) := by decide +kernel
theorem dX3_find_57 : decode cX3_find 57 = .ok (.invokevirtual 35, 3) := by decide +kernel
theorem dX3_find_60 : decode cX3_find 60 = .ok (.iconst 1, 1) := by decide +kernel
theorem dX3_find_61 : decode cX3_find 61 = .ok (.ireturn, 1) := by decide +kernel
theorem dX3_find_62 : decode cX3_find 62 = .ok (.iinc 5 1, 3) := by decide +kernel
theorem dX3_find_65 : decode cX3_find 65 = .ok (.goto (-50), 3) := by decide +kernel
theorem dX3_find_68 : decode cX3_find 68 = .ok (.iconst 0, 1) := by decide +kernel
theorem dX3_find_69 : decode cX3_find 69 = .ok (.ireturn, 1) := by decide +kernel
theorem dX3_gather_0 : decode cX3_gather 0 = .ok (.aload_n 0, 1) := by decide +kernel
theorem dX3_gather_1 : decode cX3_gather 1 = .ok (.iconst 0, 1) := by decide +kernel
theorem dX3_gather_2 : decode cX3_gather 2 = .ok (.putfield 21, 3) := by decide +kernel
theorem dX3_gather_5 : decode cX3_gather 5 = .ok (.iconst 0, 1) := by decide +kernel
theorem dX3_gather_6 : decode cX3_gather 6 = .ok (.istore_n 3, 1) := by decide +kernel
theorem dX3_gather_7 : decode cX3_gather 7 = .ok (.iload_n 3, 1) := by decide +kernel
theorem dX3_gather_8 : decode cX3_gather 8 = .ok (.aload_n 2, 1) := by decide +kernel
theorem dX3_gather_9 : decode cX3_gather 9 = .ok (.getfield 39, 3) := by decide +kernel
theorem dX3_gather_12 : decode cX3_gather 12 = .ok (.if_icmp .ge 38, 3) := by decide +kernel
theorem dX3_gather_15 : decode cX3_gather 15 = .ok (.aload_n 2, 1) := by decide +kernel
theorem dX3_gather_16 : decode cX3_gather 16 = .ok (.getfield 44, 3) := by decide +kernel
theorem dX3_gather_19 : decode cX3_gather 19 = .ok (.iload_n 3, 1) := by decide +kernel
theorem dX3_gather_20 : decode cX3_gather 20 = .ok (.iaload, 1) := by decide +kernel
theorem dX3_gather_21 : decode cX3_gather 21 = .ok (.iload_n 1, 1) := by decide +kernel
theorem dX3_gather_22 : decode cX3_gather 22 = .ok (.if_icmp .ne 22, 3) := by decide +kernel
theorem dX3_gather_25 : decode cX3_gather 25 = .ok (.aload_n 2, 1) := by decide +kernel
theorem dX3_gather_26 : decode cX3_gather 26 = .ok (.iload_n 3, 1) := by decide +kernel
theorem dX3_gather_27 : decode cX3_gather 27 = .ok (.invokevirtual 47, 3) := by decide +kernel
theorem dX3_gather_30 : decode cX3_gather 30 = .ok (.ifCond .eq 14, 3) := by decide +kernel
theorem dX3_gather_33 : decode cX3_gather 33 = .ok (.aload_n 0, 1) := by decide +kernel
theorem dX3_gather_34 : decode cX3_gather 34 = .ok (.iload_n 3, 1) := by decide +kernel
theorem dX3_gather_35 : decode cX3_gather 35 = .ok (.aload_n 2, 1) := by decide +kernel
theorem dX3_gather_36 : decode cX3_gather 36 = .ok (.getfield 51, 3) := by decide +kernel
theorem dX3_gather_39 : decode cX3_gather 39 = .ok (.iload_n 3, 1) := by decide +kernel
theorem dX3_gather_40 : decode cX3_gather 40 = .ok (.iaload, 1) := by decide +kernel
theorem dX3_gather_41 : decode cX3_gather 41 = .ok (.invokevirtual 52, 3) := by decide +kernel
theorem dX3_gather_44 : decode cX3_gather 44 = .ok (.iinc 3 1, 3) := by decide +kernel
theorem dX3_gather_47 : decode cX3_gather 47 = .ok (.goto (-40), 3) := by decide +kernel
theorem dX3_gather_50 : decode cX3_gather 50 = .ok (.return_, 1) := by decide +kernel
theorem dX3_insert_0 : decode cX3_insert 0 = .ok (.aload_n 0, 1) := by decide +kernel
theorem dX3_insert_1 : decode cX3_insert 1 = .ok (.getfield 21, 3) := by decide +kernel
theorem dX3_insert_4 : decode cX3_insert 4 = .ok (.istore_n 3, 1) := by decide +kernel
theorem dX3_insert_5 : decode cX3_insert 5 = .ok (.iload_n 3, 1) := by decide +kernel
theorem dX3_insert_6 : decode cX3_insert 6 = .ok (.ifCond .le 49, 3) := by decide +kernel
theorem dX3_insert_9 : decode cX3_insert 9 = .ok (.aload_n 0, 1) := by decide +kernel
theorem dX3_insert_10 : decode cX3_insert 10 = .ok (.getfield 15, 3) := by decide +kernel
theorem dX3_insert_13 : decode cX3_insert 13 = .ok (.iload_n 3, 1) := by decide +kernel
theorem dX3_insert_14 : decode cX3_insert 14 = .ok (.iconst 1, 1) := by decide +kernel
theorem dX3_insert_15 : decode cX3_insert 15 = .ok (.isub, 1) := by decide +kernel
theorem dX3_insert_16 : decode cX3_insert 16 = .ok (.iaload, 1) := by decide +kernel
theorem dX3_insert_17 : decode cX3_insert 17 = .ok (.iload_n 2, 1) := by decide +kernel
theorem dX3_insert_18 : decode cX3_insert 18 = .ok (.if_icmp .ge 37, 3) := by decide +kernel
theorem dX3_insert_21 : decode cX3_insert 21 = .ok (.aload_n 0, 1) := by decide +kernel
theorem dX3_insert_22 : decode cX3_insert 22 = .ok (.getfield 9, 3) := by decide +kernel
theorem dX3_insert_25 : decode cX3_insert 25 = .ok (.iload_n 3, 1) := by decide +kernel
theorem dX3_insert_26 : decode cX3_insert 26 = .ok (.aload_n 0, 1) := by decide +kernel
theorem dX3_insert_27 : decode cX3_insert 27 = .ok (.getfield 9, 3) := by decide +kernel
theorem dX3_insert_30 : decode cX3_insert 30 = .ok (.iload_n 3, 1) := by decide +kernel
theorem dX3_insert_31 : decode cX3_insert 31 = .ok (.iconst 1, 1) := by decide +kernel
theorem dX3_insert_32 : decode cX3_insert 32 = .ok (.isub, 1) := by decide +kernel
theorem dX3_insert_33 : decode cX3_insert 33 = .ok (.iaload, 1) := by decide +kernel
theorem dX3_insert_34 : decode cX3_insert 34 = .ok (.iastore, 1) := by decide +kernel
theorem dX3_insert_35 : decode cX3_insert 35 = .ok (.aload_n 0, 1) := by decide +kernel
theorem dX3_insert_36 : decode cX3_insert 36 = .ok (.getfield 15, 3) := by decide +kernel
theorem dX3_insert_39 : decode cX3_insert 39 = .ok (.iload_n 3, 1) := by decide +kernel
theorem dX3_insert_40 : decode cX3_insert 40 = .ok (.aload_n 0, 1) := by decide +kernel
theorem dX3_insert_41 : decode cX3_insert 41 = .ok (.getfield 15, 3) := by decide +kernel
theorem dX3_insert_44 : decode cX3_insert 44 = .ok (.iload_n 3, 1) := by decide +kernel
theorem dX3_insert_45 : decode cX3_insert 45 = .ok (.iconst 1, 1) := by decide +kernel
theorem dX3_insert_46 : decode cX3_insert 46 = .ok (.isub, 1) := by decide +kernel
theorem dX3_insert_47 : decode cX3_insert 47 = .ok (.iaload, 1) := by decide +kernel
theorem dX3_insert_48 : decode cX3_insert 48 = .ok (.iastore, 1) := by decide +kernel
theorem dX3_insert_49 : decode cX3_insert 49 = .ok (.iinc 3 (-1), 3) := by decide +kernel
theorem dX3_insert_52 : decode cX3_insert 52 = .ok (.goto (-47), 3) := by decide +kernel
theorem dX3_insert_55 : decode cX3_insert 55 = .ok (.aload_n 0, 1) := by decide +kernel
theorem dX3_insert_56 : decode cX3_insert 56 = .ok (.getfield 9, 3) := by decide +kernel
theorem dX3_insert_59 : decode cX3_insert 59 = .ok (.iload_n 3, 1) := by decide +kernel
theorem dX3_insert_60 : decode cX3_insert 60 = .ok (.iload_n 1, 1) := by decide +kernel
theorem dX3_insert_61 : decode cX3_insert 61 = .ok (.iastore, 1) := by decide +kernel
theorem dX3_insert_62 : decode cX3_insert 62 = .ok (.aload_n 0, 1) := by decide +kernel
theorem dX3_insert_63 : decode cX3_insert 63 = .ok (.getfield 15, 3) := by decide +kernel
theorem dX3_insert_66 : decode cX3_insert 66 = .ok (.iload_n 3, 1) := by decide +kernel
theorem dX3_insert_67 : decode cX3_insert 67 = .ok (.iload_n 2, 1) := by decide +kernel
theorem dX3_insert_68 : decode cX3_insert 68 = .ok (.iastore, 1) := by decide +kernel
theorem dX3_insert_69 : decode cX3_insert 69 = .ok (.aload_n 0, 1) := by decide +kernel
theorem dX3_insert_70 : decode cX3_insert 70 = .ok (.dup, 1) := by decide +kernel
theorem dX3_insert_71 : decode cX3_insert 71 = .ok (.getfield 21, 3) := by decide +kernel
theorem dX3_insert_74 : decode cX3_insert 74 = .ok (.iconst 1, 1) := by decide +kernel
theorem dX3_insert_75 : decode cX3_insert 75 = .ok (.iadd, 1) := by decide +kernel
theorem dX3_insert_76 : decode cX3_insert 76 = .ok (.putfield 21, 3) := by decide +kernel
theorem dX3_insert_79 : decode cX3_insert 79 = .ok (.return_, 1) := by decide +kernel
theorem dX3_take_0 : decode cX3_take 0 = .ok (.iconst 0, 1) := by decide +kernel
theorem dX3_take_1 : decode cX3_take 1 = .ok (.istore_n 2, 1) := by decide +kernel
theorem dX3_take_2 : decode cX3_take 2 = .ok (.iload_n 2, 1) := by decide +kernel
theorem dX3_take_3 : decode cX3_take 3 = .ok (.iload_n 1, 1) := by decide +kernel
theorem dX3_take_4 : decode cX3_take 4 = .ok (.if_icmp .ge 26, 3) := by decide +kernel
theorem dX3_take_7 : decode cX3_take 7 = .ok (.aload_n 0, 1) := by decide +kernel
theorem dX3_take_8 : decode cX3_take 8 = .ok (.getfield 18, 3) := by decide +kernel
theorem dX3_take_11 : decode cX3_take 11 = .ok (.iload_n 2, 1) := by decide +kernel
theorem dX3_take_12 : decode cX3_take 12 = .ok (.aload_n 0, 1) := by decide +kernel
theorem dX3_take_13 : decode cX3_take 13 = .ok (.getfield 9, 3) := by decide +kernel
theorem dX3_take_16 : decode cX3_take 16 = .ok (.aload_n 0, 1) := by decide +kernel
theorem dX3_take_17 : decode cX3_take 17 = .ok (.getfield 25, 3) := by decide +kernel
theorem dX3_take_20 : decode cX3_take 20 = .ok (.iload_n 2, 1) := by decide +kernel
theorem dX3_take_21 : decode cX3_take 21 = .ok (.iadd, 1) := by decide +kernel
theorem dX3_take_22 : decode cX3_take 22 = .ok (.iaload, 1) := by decide +kernel
theorem dX3_take_23 : decode cX3_take 23 = .ok (.iastore, 1) := by decide +kernel
theorem dX3_take_24 : decode cX3_take 24 = .ok (.iinc 2 1, 3) := by decide +kernel
theorem dX3_take_27 : decode cX3_take 27 = .ok (.goto (-25), 3) := by decide +kernel
theorem dX3_take_30 : decode cX3_take 30 = .ok (.aload_n 0, 1) := by decide +kernel
theorem dX3_take_31 : decode cX3_take 31 = .ok (.iload_n 1, 1) := by decide +kernel
theorem dX3_take_32 : decode cX3_take 32 = .ok (.putfield 28, 3) := by decide +kernel
theorem dX3_take_35 : decode cX3_take 35 = .ok (.return_, 1) := by decide +kernel
theorem dX3_lacking_0 : decode cX3_lacking 0 = .ok (.iconst 0, 1) := by decide +kernel
theorem dX3_lacking_1 : decode cX3_lacking 1 = .ok (.istore_n 1, 1) := by decide +kernel
theorem dX3_lacking_2 : decode cX3_lacking 2 = .ok (.iconst 0, 1) := by decide +kernel
theorem dX3_lacking_3 : decode cX3_lacking 3 = .ok (.istore_n 2, 1) := by decide +kernel
theorem dX3_lacking_4 : decode cX3_lacking 4 = .ok (.iload_n 2, 1) := by decide +kernel
theorem dX3_lacking_5 : decode cX3_lacking 5 = .ok (.aload_n 0, 1) := by decide +kernel
theorem dX3_lacking_6 : decode cX3_lacking 6 = .ok (.getfield 28, 3) := by decide +kernel
theorem dX3_lacking_9 : decode cX3_lacking 9 = .ok (.if_icmp .ge 26, 3) := by decide +kernel
theorem dX3_lacking_12 : decode cX3_lacking 12 = .ok (.iload_n 1, 1) := by decide +kernel
theorem dX3_lacking_13 : decode cX3_lacking 13 = .ok (.bipush 100, 2) := by decide +kernel
theorem dX3_lacking_15 : decode cX3_lacking 15 = .ok (.aload_n 0, 1) := by decide +kernel
theorem dX3_lacking_16 : decode cX3_lacking 16 = .ok (.getfield 15, 3) := by decide +kernel
theorem dX3_lacking_19 : decode cX3_lacking 19 = .ok (.aload_n 0, 1) := by decide +kernel
theorem dX3_lacking_20 : decode cX3_lacking 20 = .ok (.getfield 25, 3) := by decide +kernel
theorem dX3_lacking_23 : decode cX3_lacking 23 = .ok (.iload_n 2, 1) := by decide +kernel
theorem dX3_lacking_24 : decode cX3_lacking 24 = .ok (.iadd, 1) := by decide +kernel
theorem dX3_lacking_25 : decode cX3_lacking 25 = .ok (.iaload, 1) := by decide +kernel
theorem dX3_lacking_26 : decode cX3_lacking 26 = .ok (.isub, 1) := by decide +kernel
theorem dX3_lacking_27 : decode cX3_lacking 27 = .ok (.iadd, 1) := by decide +kernel
theorem dX3_lacking_28 : decode cX3_lacking 28 = .ok (.istore_n 1, 1) := by decide +kernel
theorem dX3_lacking_29 : decode cX3_lacking 29 = .ok (.iinc 2 1, 3) := by decide +kernel
theorem dX3_lacking_32 : decode cX3_lacking 32 = .ok (.goto (-28), 3) := by decide +kernel
theorem dX3_lacking_35 : decode cX3_lacking 35 = .ok (.iload_n 1, 1) := by decide +kernel
theorem dX3_lacking_36 : decode cX3_lacking 36 = .ok (.ireturn, 1) := by decide +kernel
theorem dX3_sortByNumber_0 : decode cX3_sortByNumber 0 = .ok (.iconst 1, 1) := by decide +kernel
theorem dX3_sortByNumber_1 : decode cX3_sortByNumber 1 = .ok (.istore_n 1, 1) := by decide +kernel
theorem dX3_sortByNumber_2 : decode cX3_sortByNumber 2 = .ok (.iload_n 1, 1) := by decide +kernel
theorem dX3_sortByNumber_3 : decode cX3_sortByNumber 3 = .ok (.aload_n 0, 1) := by decide +kernel
theorem dX3_sortByNumber_4 : decode cX3_sortByNumber 4 = .ok (.getfield 28, 3) := by decide +kernel
theorem dX3_sortByNumber_7 : decode cX3_sortByNumber 7 = .ok (.if_icmp .ge 61, 3) := by decide +kernel
theorem dX3_sortByNumber_10 : decode cX3_sortByNumber 10 = .ok (.aload_n 0, 1) := by decide +kernel
theorem dX3_sortByNumber_11 : decode cX3_sortByNumber 11 = .ok (.getfield 18, 3) := by decide +kernel
theorem dX3_sortByNumber_14 : decode cX3_sortByNumber 14 = .ok (.iload_n 1, 1) := by decide +kernel
theorem dX3_sortByNumber_15 : decode cX3_sortByNumber 15 = .ok (.iaload, 1) := by decide +kernel
theorem dX3_sortByNumber_16 : decode cX3_sortByNumber 16 = .ok (.istore_n 2, 1) := by decide +kernel
theorem dX3_sortByNumber_17 : decode cX3_sortByNumber 17 = .ok (.iload_n 1, 1) := by decide +kernel
theorem dX3_sortByNumber_18 : decode cX3_sortByNumber 18 = .ok (.istore_n 3, 1) := by decide +kernel
theorem dX3_sortByNumber_19 : decode cX3_sortByNumber 19 = .ok (.iload_n 3, 1) := by decide +kernel
theorem dX3_sortByNumber_20 : decode cX3_sortByNumber 20 = .ok (.ifCond .le 35, 3) := by decide +kernel
theorem dX3_sortByNumber_23 : decode cX3_sortByNumber 23 = .ok (.aload_n 0, 1) := by decide +kernel
theorem dX3_sortByNumber_24 : decode cX3_sortByNumber 24 = .ok (.getfield 18, 3) := by decide +kernel
theorem dX3_sortByNumber_27 : decode cX3_sortByNumber 27 = .ok (.iload_n 3, 1) := by decide +kernel
theorem dX3_sortByNumber_28 : decode cX3_sortByNumber 28 = .ok (.iconst 1, 1) := by decide +kernel
theorem dX3_sortByNumber_29 : decode cX3_sortByNumber 29 = .ok (.isub, 1) := by decide +kernel
theorem dX3_sortByNumber_30 : decode cX3_sortByNumber 30 = .ok (.iaload, 1) := by decide +kernel
theorem dX3_sortByNumber_31 : decode cX3_sortByNumber 31 = .ok (.iload_n 2, 1) := by decide +kernel
theorem dX3_sortByNumber_32 : decode cX3_sortByNumber 32 = .ok (.if_icmp .le 23, 3) := by decide +kernel
theorem dX3_sortByNumber_35 : decode cX3_sortByNumber 35 = .ok (.aload_n 0, 1) := by decide +kernel
theorem dX3_sortByNumber_36 : decode cX3_sortByNumber 36 = .ok (.getfield 18, 3) := by decide +kernel
theorem dX3_sortByNumber_39 : decode cX3_sortByNumber 39 = .ok (.iload_n 3, 1) := by decide +kernel
theorem dX3_sortByNumber_40 : decode cX3_sortByNumber 40 = .ok (.aload_n 0, 1) := by decide +kernel
theorem dX3_sortByNumber_41 : decode cX3_sortByNumber 41 = .ok (.getfield 18, 3) := by decide +kernel
theorem dX3_sortByNumber_44 : decode cX3_sortByNumber 44 = .ok (.iload_n 3, 1) := by decide +kernel
theorem dX3_sortByNumber_45 : decode cX3_sortByNumber 45 = .ok (.iconst 1, 1) := by decide +kernel
theorem dX3_sortByNumber_46 : decode cX3_sortByNumber 46 = .ok (.isub, 1) := by decide +kernel
theorem dX3_sortByNumber_47 : decode cX3_sortByNumber 47 = .ok (.iaload, 1) := by decide +kernel
theorem dX3_sortByNumber_48 : decode cX3_sortByNumber 48 = .ok (.iastore, 1) := by decide +kernel
theorem dX3_sortByNumber_49 : decode cX3_sortByNumber 49 = .ok (.iinc 3 (-1), 3) := by decide +kernel
theorem dX3_sortByNumber_52 : decode cX3_sortByNumber 52 = .ok (.goto (-33), 3) := by decide +kernel
theorem dX3_sortByNumber_55 : decode cX3_sortByNumber 55 = .ok (.aload_n 0, 1) := by decide +kernel
theorem dX3_sortByNumber_56 : decode cX3_sortByNumber 56 = .ok (.getfield 18, 3) := by decide +kernel
theorem dX3_sortByNumber_59 : decode cX3_sortByNumber 59 = .ok (.iload_n 3, 1) := by decide +kernel
theorem dX3_sortByNumber_60 : decode cX3_sortByNumber 60 = .ok (.iload_n 2, 1) := by decide +kernel
theorem dX3_sortByNumber_61 : decode cX3_sortByNumber 61 = .ok (.iastore, 1) := by decide +kernel
theorem dX3_sortByNumber_62 : decode cX3_sortByNumber 62 = .ok (.iinc 1 1, 3) := by decide +kernel
theorem dX3_sortByNumber_65 : decode cX3_sortByNumber 65 = .ok (.goto (-63), 3) := by decide +kernel
theorem dX3_sortByNumber_68 : decode cX3_sortByNumber 68 = .ok (.return_, 1) := by decide +kernel
theorem dX4_init_0 : decode cX4_init 0 = .ok (.aload_n 0, 1) := by decide +kernel
theorem dX4_init_1 : decode cX4_init 1 = .ok (.invokespecial 3, 3) := by decide +kernel
theorem dX4_init_4 : decode cX4_init 4 = .ok (.aload_n 0, 1) := by decide +kernel
theorem dX4_init_5 : decode cX4_init 5 = .ok (.sipush 201, 3) := by decide +kernel
theorem dX4_init_8 : decode cX4_init 8 = .ok (.newarray .int, 2) := by decide +kernel
theorem dX4_init_10 : decode cX4_init 10 = .ok (.putfield 9, 3) := by decide +kernel
theorem dX4_init_13 : decode cX4_init 13 = .ok (.return_, 1) := by decide +kernel
theorem dX4_ofWhole_0 : decode cX4_ofWhole 0 = .ok (.aload_n 0, 1) := by decide +kernel
theorem dX4_ofWhole_1 : decode cX4_ofWhole 1 = .ok (.invokevirtual 15, 3) := by decide +kernel
theorem dX4_ofWhole_4 : decode cX4_ofWhole 4 = .ok (.iconst 1, 1) := by decide +kernel
theorem dX4_ofWhole_5 : decode cX4_ofWhole 5 = .ok (.istore 4, 2) := by decide +kernel
theorem dX4_ofWhole_7 : decode cX4_ofWhole 7 = .ok (.iload 4, 2) := by decide +kernel
theorem dX4_ofWhole_9 : decode cX4_ofWhole 9 = .ok (.iload_n 1, 1) := by decide +kernel
theorem dX4_ofWhole_10 : decode cX4_ofWhole 10 = .ok (.if_icmp .gt 16, 3) := by decide +kernel
theorem dX4_ofWhole_13 : decode cX4_ofWhole 13 = .ok (.aload_n 0, 1) := by decide +kernel
theorem dX4_ofWhole_14 : decode cX4_ofWhole 14 = .ok (.iload 4, 2) := by decide +kernel
theorem dX4_ofWhole_16 : decode cX4_ofWhole 16 = .ok (.iload_n 3, 1) := by decide +kernel
theorem dX4_ofWhole_17 : decode cX4_ofWhole 17 = .ok (.invokevirtual 18, 3) := by decide +kernel
theorem dX4_ofWhole_20 : decode cX4_ofWhole 20 = .ok (.iinc 4 1, 3) := by decide +kernel
theorem dX4_ofWhole_23 : decode cX4_ofWhole 23 = .ok (.goto (-16), 3) := by decide +kernel
theorem dX4_ofWhole_26 : decode cX4_ofWhole 26 = .ok (.aload_n 0, 1) := by decide +kernel
theorem dX4_ofWhole_27 : decode cX4_ofWhole 27 = .ok (.iload_n 2, 1) := by decide +kernel
theorem dX4_ofWhole_28 : decode cX4_ofWhole 28 = .ok (.iload_n 1, 1) := by decide +kernel
theorem dX4_ofWhole_29 : decode cX4_ofWhole 29 = .ok (.invokevirtual 22, 3) := by decide +kernel
theorem dX4_ofWhole_32 : decode cX4_ofWhole 32 = .ok (.ireturn, 1) := by decide +kernel
theorem dX4_fewestFor_0 : decode cX4_fewestFor 0 = .ok (.aload_n 0, 1) := by decide +kernel
theorem dX4_fewestFor_1 : decode cX4_fewestFor 1 = .ok (.invokevirtual 15, 3) := by decide +kernel
theorem dX4_fewestFor_4 : decode cX4_fewestFor 4 = .ok (.aload_n 0, 1) := by decide +kernel
theorem dX4_fewestFor_5 : decode cX4_fewestFor 5 = .ok (.iload_n 1, 1) := by decide +kernel
theorem dX4_fewestFor_6 : decode cX4_fewestFor 6 = .ok (.iconst 0, 1) := by decide +kernel
theorem dX4_fewestFor_7 : decode cX4_fewestFor 7 = .ok (.invokevirtual 22, 3) := by decide +kernel
theorem dX4_fewestFor_10 : decode cX4_fewestFor 10 = .ok (.iload_n 3, 1) := by decide +kernel
theorem dX4_fewestFor_11 : decode cX4_fewestFor 11 = .ok (.if_icmp .lt 5, 3) := by decide +kernel
theorem dX4_fewestFor_14 : decode cX4_fewestFor 14 = .ok (.iconst 0, 1) := by decide +kernel
theorem dX4_fewestFor_15 : decode cX4_fewestFor 15 = .ok (.ireturn, 1) := by decide +kernel
theorem dX4_fewestFor_16 : decode cX4_fewestFor 16 = .ok (.iconst 1, 1) := by decide +kernel
theorem dX4_fewestFor_17 : decode cX4_fewestFor 17 = .ok (.istore 4, 2) := by decide +kernel
theorem dX4_fewestFor_19 : decode cX4_fewestFor 19 = .ok (.iload 4, 2) := by decide +kernel
theorem dX4_fewestFor_21 : decode cX4_fewestFor 21 = .ok (.sipush 200, 3) := by decide +kernel
theorem dX4_fewestFor_24 : decode cX4_fewestFor 24 = .ok (.if_icmp .gt 30, 3) := by decide +kernel
theorem dX4_fewestFor_27 : decode cX4_fewestFor 27 = .ok (.aload_n 0, 1) := by decide +kernel
theorem dX4_fewestFor_28 : decode cX4_fewestFor 28 = .ok (.iload 4, 2) := by decide +kernel
theorem dX4_fewestFor_30 : decode cX4_fewestFor 30 = .ok (.iload_n 2, 1) := by decide +kernel
theorem dX4_fewestFor_31 : decode cX4_fewestFor 31 = .ok (.invokevirtual 18, 3) := by decide +kernel
theorem dX4_fewestFor_34 : decode cX4_fewestFor 34 = .ok (.aload_n 0, 1) := by decide +kernel
theorem dX4_fewestFor_35 : decode cX4_fewestFor 35 = .ok (.iload_n 1, 1) := by decide +kernel
theorem dX4_fewestFor_36 : decode cX4_fewestFor 36 = .ok (.iload 4, 2) := by decide +kernel
theorem dX4_fewestFor_38 : decode cX4_fewestFor 38 = .ok (.invokevirtual 22, 3) := by decide +kernel
theorem dX4_fewestFor_41 : decode cX4_fewestFor 41 = .ok (.iload_n 3, 1) := by decide +kernel
theorem dX4_fewestFor_42 : decode cX4_fewestFor 42 = .ok (.if_icmp .lt 6, 3) := by decide +kernel
theorem dX4_fewestFor_45 : decode cX4_fewestFor 45 = .ok (.iload 4, 2) := by decide +kernel
theorem dX4_fewestFor_47 : decode cX4_fewestFor 47 = .ok (.ireturn, 1) := by decide +kernel
theorem dX4_fewestFor_48 : decode cX4_fewestFor 48 = .ok (.iinc 4 1, 3) := by decide +kernel
theorem dX4_fewestFor_51 : decode cX4_fewestFor 51 = .ok (.goto (-32), 3) := by decide +kernel
theorem dX4_fewestFor_54 : decode cX4_fewestFor 54 = .ok (.bipush (-9), 2) := by decide +kernel
theorem dX4_fewestFor_56 : decode cX4_fewestFor 56 = .ok (.ireturn, 1) := by decide +kernel
theorem dX4_begin_0 : decode cX4_begin 0 = .ok (.iconst 0, 1) := by decide +kernel
theorem dX4_begin_1 : decode cX4_begin 1 = .ok (.istore_n 1, 1) := by decide +kernel
theorem dX4_begin_2 : decode cX4_begin 2 = .ok (.iload_n 1, 1) := by decide +kernel
theorem dX4_begin_3 : decode cX4_begin 3 = .ok (.sipush 200, 3) := by decide +kernel
theorem dX4_begin_6 : decode cX4_begin 6 = .ok (.if_icmp .gt 16, 3) := by decide +kernel
theorem dX4_begin_9 : decode cX4_begin 9 = .ok (.aload_n 0, 1) := by decide +kernel
theorem dX4_begin_10 : decode cX4_begin 10 = .ok (.getfield 9, 3) := by decide +kernel
theorem dX4_begin_13 : decode cX4_begin 13 = .ok (.iload_n 1, 1) := by decide +kernel
theorem dX4_begin_14 : decode cX4_begin 14 = .ok (.iconst 0, 1) := by decide +kernel
theorem dX4_begin_15 : decode cX4_begin 15 = .ok (.iastore, 1) := by decide +kernel
theorem dX4_begin_16 : decode cX4_begin 16 = .ok (.iinc 1 1, 3) := by decide +kernel
theorem dX4_begin_19 : decode cX4_begin 19 = .ok (.goto (-17), 3) := by decide +kernel
theorem dX4_begin_22 : decode cX4_begin 22 = .ok (.aload_n 0, 1) := by decide +kernel
theorem dX4_begin_23 : decode cX4_begin 23 = .ok (.getfield 9, 3) := by decide +kernel
theorem dX4_begin_26 : decode cX4_begin 26 = .ok (.iconst 0, 1) := by decide +kernel
theorem dX4_begin_27 : decode cX4_begin 27 = .ok (.ldc 26, 2) := by decide +kernel
theorem dX4_begin_29 : decode cX4_begin 29 = .ok (.iastore, 1) := by decide +kernel
theorem dX4_begin_30 : decode cX4_begin 30 = .ok (.return_, 1) := by decide +kernel
theorem dX4_makeOneMore_0 : decode cX4_makeOneMore 0 = .ok (.sipush 1024, 3) := by decide +kernel
theorem dX4_makeOneMore_3 : decode cX4_makeOneMore 3 = .ok (.iload_n 2, 1) := by decide +kernel
theorem dX4_makeOneMore_4 : decode cX4_makeOneMore 4 = .ok (.isub, 1) := by decide +kernel
theorem dX4_makeOneMore_5 : decode cX4_makeOneMore 5 = .ok (.istore_n 3, 1) := by decide +kernel
theorem dX4_makeOneMore_6 : decode cX4_makeOneMore 6 = .ok (.iload_n 1, 1) := by decide +kernel
theorem dX4_makeOneMore_7 : decode cX4_makeOneMore 7 = .ok (.istore 4, 2) := by decide +kernel
theorem dX4_makeOneMore_9 : decode cX4_makeOneMore 9 = .ok (.iload 4, 2) := by decide +kernel
theorem dX4_makeOneMore_11 : decode cX4_makeOneMore 11 = .ok (.iconst 1, 1) := by decide +kernel
theorem dX4_makeOneMore_12 : decode cX4_makeOneMore 12 = .ok (.if_icmp .lt 41, 3) := by decide +kernel
theorem dX4_makeOneMore_15 : decode cX4_makeOneMore 15 = .ok (.aload_n 0, 1) := by decide +kernel
theorem dX4_makeOneMore_16 : decode cX4_makeOneMore 16 = .ok (.getfield 9, 3) := by decide +kernel
theorem dX4_makeOneMore_19 : decode cX4_makeOneMore 19 = .ok (.iload 4, 2) := by decide +kernel
theorem dX4_makeOneMore_21 : decode cX4_makeOneMore 21 = .ok (.aload_n 0, 1) := by decide +kernel
theorem dX4_makeOneMore_22 : decode cX4_makeOneMore 22 = .ok (.getfield 9, 3) := by decide +kernel
theorem dX4_makeOneMore_25 : decode cX4_makeOneMore 25 = .ok (.iload 4, 2) := by decide +kernel
theorem dX4_makeOneMore_27 : decode cX4_makeOneMore 27 = .ok (.iaload, 1) := by decide +kernel
theorem dX4_makeOneMore_28 : decode cX4_makeOneMore 28 = .ok (.iload_n 3, 1) := by decide +kernel
theorem dX4_makeOneMore_29 : decode cX4_makeOneMore 29 = .ok (.imul, 1) := by decide +kernel
theorem dX4_makeOneMore_30 : decode cX4_makeOneMore 30 = .ok (.aload_n 0, 1) := by decide +kernel
theorem dX4_makeOneMore_31 : decode cX4_makeOneMore 31 = .ok (.getfield 9, 3) := by decide +kernel
theorem dX4_makeOneMore_34 : decode cX4_makeOneMore 34 = .ok (.iload 4, 2) := by decide +kernel
theorem dX4_makeOneMore_36 : decode cX4_makeOneMore 36 = .ok (.iconst 1, 1) := by decide +kernel
theorem dX4_makeOneMore_37 : decode cX4_makeOneMore 37 = .ok (.isub, 1) := by decide +kernel
theorem dX4_makeOneMore_38 : decode cX4_makeOneMore 38 = .ok (.iaload, 1) := by decide +kernel
theorem dX4_makeOneMore_39 : decode cX4_makeOneMore 39 = .ok (.iload_n 2, 1) := by decide +kernel
theorem dX4_makeOneMore_40 : decode cX4_makeOneMore 40 = .ok (.imul, 1) := by decide +kernel
theorem dX4_makeOneMore_41 : decode cX4_makeOneMore 41 = .ok (.iadd, 1) := by decide +kernel
theorem dX4_makeOneMore_42 : decode cX4_makeOneMore 42 = .ok (.sipush 1024, 3) := by decide +kernel
theorem dX4_makeOneMore_45 : decode cX4_makeOneMore 45 = .ok (.idiv, 1) := by decide +kernel
theorem dX4_makeOneMore_46 : decode cX4_makeOneMore 46 = .ok (.iastore, 1) := by decide +kernel
theorem dX4_makeOneMore_47 : decode cX4_makeOneMore 47 = .ok (.iinc 4 (-1), 3) := by decide +kernel
theorem dX4_makeOneMore_50 : decode cX4_makeOneMore 50 = .ok (.goto (-41), 3) := by decide +kernel
theorem dX4_makeOneMore_53 : decode cX4_makeOneMore 53 = .ok (.aload_n 0, 1) := by decide +kernel
theorem dX4_makeOneMore_54 : decode cX4_makeOneMore 54 = .ok (.getfield 9, 3) := by decide +kernel
theorem dX4_makeOneMore_57 : decode cX4_makeOneMore 57 = .ok (.iconst 0, 1) := by decide +kernel
theorem dX4_makeOneMore_58 : decode cX4_makeOneMore 58 = .ok (.aload_n 0, 1) := by decide +kernel
theorem dX4_makeOneMore_59 : decode cX4_makeOneMore 59 = .ok (.getfield 9, 3) := by decide +kernel
theorem dX4_makeOneMore_62 : decode cX4_makeOneMore 62 = .ok (.iconst 0, 1) := by decide +kernel
theorem dX4_makeOneMore_63 : decode cX4_makeOneMore 63 = .ok (.iaload, 1) := by decide +kernel
theorem dX4_makeOneMore_64 : decode cX4_makeOneMore 64 = .ok (.iload_n 3, 1) := by decide +kernel
theorem dX4_makeOneMore_65 : decode cX4_makeOneMore 65 = .ok (.imul, 1) := by decide +kernel
theorem dX4_makeOneMore_66 : decode cX4_makeOneMore 66 = .ok (.sipush 1024, 3) := by decide +kernel
theorem dX4_makeOneMore_69 : decode cX4_makeOneMore 69 = .ok (.idiv, 1) := by decide +kernel
theorem dX4_makeOneMore_70 : decode cX4_makeOneMore 70 = .ok (.iastore, 1) := by decide +kernel
theorem dX4_makeOneMore_71 : decode cX4_makeOneMore 71 = .ok (.return_, 1) := by decide +kernel
theorem dX4_orMore_0 : decode cX4_orMore 0 = .ok (.iconst 0, 1) := by decide +kernel
theorem dX4_orMore_1 : decode cX4_orMore 1 = .ok (.istore_n 3, 1) := by decide +kernel
theorem dX4_orMore_2 : decode cX4_orMore 2 = .ok (.iload_n 1, 1) := by decide +kernel
theorem dX4_orMore_3 : decode cX4_orMore 3 = .ok (.istore 4, 2) := by decide +kernel
theorem dX4_orMore_5 : decode cX4_orMore 5 = .ok (.iload 4, 2) := by decide +kernel
theorem dX4_orMore_7 : decode cX4_orMore 7 = .ok (.iload_n 2, 1) := by decide +kernel
theorem dX4_orMore_8 : decode cX4_orMore 8 = .ok (.if_icmp .gt 19, 3) := by decide +kernel
theorem dX4_orMore_11 : decode cX4_orMore 11 = .ok (.iload_n 3, 1) := by decide +kernel
theorem dX4_orMore_12 : decode cX4_orMore 12 = .ok (.aload_n 0, 1) := by decide +kernel
theorem dX4_orMore_13 : decode cX4_orMore 13 = .ok (.getfield 9, 3) := by decide +kernel
theorem dX4_orMore_16 : decode cX4_orMore 16 = .ok (.iload 4, 2) := by decide +kernel
theorem dX4_orMore_18 : decode cX4_orMore 18 = .ok (.iaload, 1) := by decide +kernel
theorem dX4_orMore_19 : decode cX4_orMore 19 = .ok (.iadd, 1) := by decide +kernel
theorem dX4_orMore_20 : decode cX4_orMore 20 = .ok (.istore_n 3, 1) := by decide +kernel
theorem dX4_orMore_21 : decode cX4_orMore 21 = .ok (.iinc 4 1, 3) := by decide +kernel
theorem dX4_orMore_24 : decode cX4_orMore 24 = .ok (.goto (-19), 3) := by decide +kernel
theorem dX4_orMore_27 : decode cX4_orMore 27 = .ok (.iload_n 3, 1) := by decide +kernel
theorem dX4_orMore_28 : decode cX4_orMore 28 = .ok (.ireturn, 1) := by decide +kernel
theorem dX5_init_0 : decode cX5_init 0 = .ok (.aload_n 0, 1) := by decide +kernel
theorem dX5_init_1 : decode cX5_init 1 = .ok (.invokespecial 3, 3) := by decide +kernel
theorem dX5_init_4 : decode cX5_init 4 = .ok (.aload_n 0, 1) := by decide +kernel
theorem dX5_init_5 : decode cX5_init 5 = .ok (.bipush 12, 2) := by decide +kernel
theorem dX5_init_7 : decode cX5_init 7 = .ok (.newarray .int, 2) := by decide +kernel
theorem dX5_init_9 : decode cX5_init 9 = .ok (.putfield 9, 3) := by decide +kernel
theorem dX5_init_12 : decode cX5_init 12 = .ok (.aload_n 0, 1) := by decide +kernel
theorem dX5_init_13 : decode cX5_init 13 = .ok (.bipush 12, 2) := by decide +kernel
theorem dX5_init_15 : decode cX5_init 15 = .ok (.newarray .int, 2) := by decide +kernel
theorem dX5_init_17 : decode cX5_init 17 = .ok (.putfield 15, 3) := by decide +kernel
theorem dX5_init_20 : decode cX5_init 20 = .ok (.aload_n 0, 1) := by decide +kernel
theorem dX5_init_21 : decode cX5_init 21 = .ok (.bipush 12, 2) := by decide +kernel
theorem dX5_init_23 : decode cX5_init 23 = .ok (.newarray .int, 2) := by decide +kernel
theorem dX5_init_25 : decode cX5_init 25 = .ok (.putfield 18, 3) := by decide +kernel
theorem dX5_init_28 : decode cX5_init 28 = .ok (.return_, 1) := by decide +kernel
theorem dX5_plan_0 : decode cX5_plan 0 = .ok (.iload_n 1, 1) := by decide +kernel
theorem dX5_plan_1 : decode cX5_plan 1 = .ok (.istore_n 2, 1) := by decide +kernel
theorem dX5_plan_2 : decode cX5_plan 2 = .ok (.iconst 0, 1) := by decide +kernel
theorem dX5_plan_3 : decode cX5_plan 3 = .ok (.istore_n 3, 1) := by decide +kernel
theorem dX5_plan_4 : decode cX5_plan 4 = .ok (.iconst 0, 1) := by decide +kernel
theorem dX5_plan_5 : decode cX5_plan 5 = .ok (.istore 4, 2) := by decide +kernel
theorem dX5_plan_7 : decode cX5_plan 7 = .ok (.iload 4, 2) := by decide +kernel
theorem dX5_plan_9 : decode cX5_plan 9 = .ok (.bipush 12, 2) := by decide +kernel
theorem dX5_plan_11 : decode cX5_plan 11 = .ok (.if_icmp .ge 39, 3) := by decide +kernel
theorem dX5_plan_14 : decode cX5_plan 14 = .ok (.iload_n 2, 1) := by decide +kernel
theorem dX5_plan_15 : decode cX5_plan 15 = .ok (.ifCond .eq 35, 3) := by decide +kernel
theorem dX5_plan_18 : decode cX5_plan 18 = .ok (.aload_n 0, 1) := by decide +kernel
theorem dX5_plan_19 : decode cX5_plan 19 = .ok (.iload_n 2, 1) := by decide +kernel
theorem dX5_plan_20 : decode cX5_plan 20 = .ok (.invokevirtual 21, 3) := by decide +kernel
theorem dX5_plan_23 : decode cX5_plan 23 = .ok (.istore 5, 2) := by decide +kernel
theorem dX5_plan_25 : decode cX5_plan 25 = .ok (.aload_n 0, 1) := by decide +kernel
theorem dX5_plan_26 : decode cX5_plan 26 = .ok (.getfield 18, 3) := by decide +kernel
theorem dX5_plan_29 : decode cX5_plan 29 = .ok (.iload_n 3, 1) := by decide +kernel
theorem dX5_plan_30 : decode cX5_plan 30 = .ok (.iload 5, 2) := by decide +kernel
theorem dX5_plan_32 : decode cX5_plan 32 = .ok (.iastore, 1) := by decide +kernel
theorem dX5_plan_33 : decode cX5_plan 33 = .ok (.iinc 3 1, 3) := by decide +kernel
theorem dX5_plan_36 : decode cX5_plan 36 = .ok (.aload_n 0, 1) := by decide +kernel
theorem dX5_plan_37 : decode cX5_plan 37 = .ok (.iload_n 2, 1) := by decide +kernel
theorem dX5_plan_38 : decode cX5_plan 38 = .ok (.iload 5, 2) := by decide +kernel
theorem dX5_plan_40 : decode cX5_plan 40 = .ok (.invokevirtual 25, 3) := by decide +kernel
theorem dX5_plan_43 : decode cX5_plan 43 = .ok (.istore_n 2, 1) := by decide +kernel
theorem dX5_plan_44 : decode cX5_plan 44 = .ok (.iinc 4 1, 3) := by decide +kernel
theorem dX5_plan_47 : decode cX5_plan 47 = .ok (.goto (-40), 3) := by decide +kernel
theorem dX5_plan_50 : decode cX5_plan 50 = .ok (.iload_n 3, 1) := by decide +kernel
theorem dX5_plan_51 : decode cX5_plan 51 = .ok (.ireturn, 1) := by decide +kernel
theorem dX5_greatestFrom_0 : decode cX5_greatestFrom 0 = .ok (.iconst 0, 1) := by decide +kernel
theorem dX5_greatestFrom_1 : decode cX5_greatestFrom 1 = .ok (.istore_n 2, 1) := by decide +kernel
theorem dX5_greatestFrom_2 : decode cX5_greatestFrom 2 = .ok (.iconst 0, 1) := by decide +kernel
theorem dX5_greatestFrom_3 : decode cX5_greatestFrom 3 = .ok (.istore_n 3, 1) := by decide +kernel
theorem dX5_greatestFrom_4 : decode cX5_greatestFrom 4 = .ok (.iload_n 3, 1) := by decide +kernel
theorem dX5_greatestFrom_5 : decode cX5_greatestFrom 5 = .ok (.bipush 12, 2) := by decide +kernel
theorem dX5_greatestFrom_7 : decode cX5_greatestFrom 7 = .ok (.if_icmp .ge 28, 3) := by decide +kernel
theorem dX5_greatestFrom_10 : decode cX5_greatestFrom 10 = .ok (.iload_n 1, 1) := by decide +kernel
theorem dX5_greatestFrom_11 : decode cX5_greatestFrom 11 = .ok (.iconst 1, 1) := by decide +kernel
theorem dX5_greatestFrom_12 : decode cX5_greatestFrom 12 = .ok (.iload_n 3, 1) := by decide +kernel
theorem dX5_greatestFrom_13 : decode cX5_greatestFrom 13 = .ok (.ishl, 1) := by decide +kernel
theorem dX5_greatestFrom_14 : decode cX5_greatestFrom 14 = .ok (.iand, 1) := by decide +kernel
theorem dX5_greatestFrom_15 : decode cX5_greatestFrom 15 = .ok (.ifCond .eq 14, 3) := by decide +kernel
theorem dX5_greatestFrom_18 : decode cX5_greatestFrom 18 = .ok (.iload_n 2, 1) := by decide +kernel
theorem dX5_greatestFrom_19 : decode cX5_greatestFrom 19 = .ok (.aload_n 0, 1) := by decide +kernel
theorem dX5_greatestFrom_20 : decode cX5_greatestFrom 20 = .ok (.getfield 9, 3) := by decide +kernel
theorem dX5_greatestFrom_23 : decode cX5_greatestFrom 23 = .ok (.iload_n 3, 1) := by decide +kernel
theorem dX5_greatestFrom_24 : decode cX5_greatestFrom 24 = .ok (.iaload, 1) := by decide +kernel
theorem dX5_greatestFrom_25 : decode cX5_greatestFrom 25 = .ok (.invokestatic 29, 3) := by decide +kernel
theorem dX5_greatestFrom_28 : decode cX5_greatestFrom 28 = .ok (.istore_n 2, 1) := by decide +kernel
theorem dX5_greatestFrom_29 : decode cX5_greatestFrom 29 = .ok (.iinc 3 1, 3) := by decide +kernel
theorem dX5_greatestFrom_32 : decode cX5_greatestFrom 32 = .ok (.goto (-28), 3) := by decide +kernel
theorem dX5_greatestFrom_35 : decode cX5_greatestFrom 35 = .ok (.iload_n 2, 1) := by decide +kernel
theorem dX5_greatestFrom_36 : decode cX5_greatestFrom 36 = .ok (.ireturn, 1) := by decide +kernel
theorem dX5_stillUnfixed_0 : decode cX5_stillUnfixed 0 = .ok (.iload_n 1, 1) := by decide +kernel
theorem dX5_stillUnfixed_1 : decode cX5_stillUnfixed 1 = .ok (.istore_n 3, 1) := by decide +kernel
theorem dX5_stillUnfixed_2 : decode cX5_stillUnfixed 2 = .ok (.iconst 0, 1) := by decide +kernel
theorem dX5_stillUnfixed_3 : decode cX5_stillUnfixed 3 = .ok (.istore 4, 2) := by decide +kernel
theorem dX5_stillUnfixed_5 : decode cX5_stillUnfixed 5 = .ok (.iload 4, 2) := by decide +kernel
theorem dX5_stillUnfixed_7 : decode cX5_stillUnfixed 7 = .ok (.bipush 12, 2) := by decide +kernel
theorem dX5_stillUnfixed_9 : decode cX5_stillUnfixed 9 = .ok (.if_icmp .ge 40, 3) := by decide +kernel
theorem dX5_stillUnfixed_12 : decode cX5_stillUnfixed 12 = .ok (.aload_n 0, 1) := by decide +kernel
theorem dX5_stillUnfixed_13 : decode cX5_stillUnfixed 13 = .ok (.getfield 9, 3) := by decide +kernel
theorem dX5_stillUnfixed_16 : decode cX5_stillUnfixed 16 = .ok (.iload 4, 2) := by decide +kernel
theorem dX5_stillUnfixed_18 : decode cX5_stillUnfixed 18 = .ok (.iaload, 1) := by decide +kernel
theorem dX5_stillUnfixed_19 : decode cX5_stillUnfixed 19 = .ok (.iload_n 2, 1) := by decide +kernel
theorem dX5_stillUnfixed_20 : decode cX5_stillUnfixed 20 = .ok (.if_icmp .gt 23, 3) := by decide +kernel
theorem dX5_stillUnfixed_23 : decode cX5_stillUnfixed 23 = .ok (.iload_n 2, 1) := by decide +kernel
theorem dX5_stillUnfixed_24 : decode cX5_stillUnfixed 24 = .ok (.aload_n 0, 1) := by decide +kernel
theorem dX5_stillUnfixed_25 : decode cX5_stillUnfixed 25 = .ok (.getfield 15, 3) := by decide +kernel
theorem dX5_stillUnfixed_28 : decode cX5_stillUnfixed 28 = .ok (.iload 4, 2) := by decide +kernel
theorem dX5_stillUnfixed_30 : decode cX5_stillUnfixed 30 = .ok (.iaload, 1) := by decide +kernel
theorem dX5_stillUnfixed_31 : decode cX5_stillUnfixed 31 = .ok (.if_icmp .gt 12, 3) := by decide +kernel
theorem dX5_stillUnfixed_34 : decode cX5_stillUnfixed 34 = .ok (.iload_n 3, 1) := by decide +kernel
theorem dX5_stillUnfixed_35 : decode cX5_stillUnfixed 35 = .ok (.iconst 1, 1) := by decide +kernel
theorem dX5_stillUnfixed_36 : decode cX5_stillUnfixed 36 = .ok (.iload 4, 2) := by decide +kernel
theorem dX5_stillUnfixed_38 : decode cX5_stillUnfixed 38 = .ok (.ishl, 1) := by decide +kernel
theorem dX5_stillUnfixed_39 : decode cX5_stillUnfixed 39 = .ok (.iconst (-1), 1) := by decide +kernel
theorem dX5_stillUnfixed_40 : decode cX5_stillUnfixed 40 = .ok (.ixor, 1) := by decide +kernel
theorem dX5_stillUnfixed_41 : decode cX5_stillUnfixed 41 = .ok (.iand, 1) := by decide +kernel
theorem dX5_stillUnfixed_42 : decode cX5_stillUnfixed 42 = .ok (.istore_n 3, 1) := by decide +kernel
theorem dX5_stillUnfixed_43 : decode cX5_stillUnfixed 43 = .ok (.iinc 4 1, 3) := by decide +kernel
theorem dX5_stillUnfixed_46 : decode cX5_stillUnfixed 46 = .ok (.goto (-41), 3) := by decide +kernel
theorem dX5_stillUnfixed_49 : decode cX5_stillUnfixed 49 = .ok (.iload_n 3, 1) := by decide +kernel
theorem dX5_stillUnfixed_50 : decode cX5_stillUnfixed 50 = .ok (.ireturn, 1) := by decide +kernel
theorem dX6_init_0 : decode cX6_init 0 = .ok (.aload_n 0, 1) := by decide +kernel
theorem dX6_init_1 : decode cX6_init 1 = .ok (.invokespecial 3, 3) := by decide +kernel
theorem dX6_init_4 : decode cX6_init 4 = .ok (.aload_n 0, 1) := by decide +kernel
theorem dX6_init_5 : decode cX6_init 5 = .ok (.bipush 80, 2) := by decide +kernel
theorem dX6_init_7 : decode cX6_init 7 = .ok (.newarray .int, 2) := by decide +kernel
theorem dX6_init_9 : decode cX6_init 9 = .ok (.putfield 9, 3) := by decide +kernel
theorem dX6_init_12 : decode cX6_init 12 = .ok (.aload_n 0, 1) := by decide +kernel
theorem dX6_init_13 : decode cX6_init 13 = .ok (.bipush 80, 2) := by decide +kernel
theorem dX6_init_15 : decode cX6_init 15 = .ok (.newarray .int, 2) := by decide +kernel
theorem dX6_init_17 : decode cX6_init 17 = .ok (.putfield 15, 3) := by decide +kernel
theorem dX6_init_20 : decode cX6_init 20 = .ok (.aload_n 0, 1) := by decide +kernel
theorem dX6_init_21 : decode cX6_init 21 = .ok (.bipush 80, 2) := by decide +kernel
theorem dX6_init_23 : decode cX6_init 23 = .ok (.newarray .int, 2) := by decide +kernel
theorem dX6_init_25 : decode cX6_init 25 = .ok (.putfield 18, 3) := by decide +kernel
theorem dX6_init_28 : decode cX6_init 28 = .ok (.aload_n 0, 1) := by decide +kernel
theorem dX6_init_29 : decode cX6_init 29 = .ok (.bipush 80, 2) := by decide +kernel
theorem dX6_init_31 : decode cX6_init 31 = .ok (.newarray .int, 2) := by decide +kernel
theorem dX6_init_33 : decode cX6_init 33 = .ok (.putfield 21, 3) := by decide +kernel
theorem dX6_init_36 : decode cX6_init 36 = .ok (.aload_n 0, 1) := by decide +kernel
theorem dX6_init_37 : decode cX6_init 37 = .ok (.bipush 80, 2) := by decide +kernel
theorem dX6_init_39 : decode cX6_init 39 = .ok (.newarray .int, 2) := by decide +kernel
theorem dX6_init_41 : decode cX6_init 41 = .ok (.putfield 24, 3) := by decide +kernel
theorem dX6_init_44 : decode cX6_init 44 = .ok (.aload_n 0, 1) := by decide +kernel
theorem dX6_init_45 : decode cX6_init 45 = .ok (.bipush 80, 2) := by decide +kernel
theorem dX6_init_47 : decode cX6_init 47 = .ok (.newarray .int, 2) := by decide +kernel
theorem dX6_init_49 : decode cX6_init 49 = .ok (.putfield 27, 3) := by decide +kernel
theorem dX6_init_52 : decode cX6_init 52 = .ok (.aload_n 0, 1) := by decide +kernel
theorem dX6_init_53 : decode cX6_init 53 = .ok (.bipush 80, 2) := by decide +kernel
theorem dX6_init_55 : decode cX6_init 55 = .ok (.newarray .int, 2) := by decide +kernel
theorem dX6_init_57 : decode cX6_init 57 = .ok (.putfield 30, 3) := by decide +kernel
theorem dX6_init_60 : decode cX6_init 60 = .ok (.aload_n 0, 1) := by decide +kernel
theorem dX6_init_61 : decode cX6_init 61 = .ok (.iconst 0, 1) := by decide +kernel
theorem dX6_init_62 : decode cX6_init 62 = .ok (.putfield 33, 3) := by decide +kernel
theorem dX6_init_65 : decode cX6_init 65 = .ok (.return_, 1) := by decide +kernel
theorem dX6_shape_0 : decode cX6_shape 0 = .ok (.aload_n 0, 1) := by decide +kernel
theorem dX6_shape_1 : decode cX6_shape 1 = .ok (.getfield 9, 3) := by decide +kernel
theorem dX6_shape_4 : decode cX6_shape 4 = .ok (.aload_n 0, 1) := by decide +kernel
theorem dX6_shape_5 : decode cX6_shape 5 = .ok (.getfield 33, 3) := by decide +kernel
theorem dX6_shape_8 : decode cX6_shape 8 = .ok (.iload_n 1, 1) := by decide +kernel
theorem dX6_shape_9 : decode cX6_shape 9 = .ok (.iastore, 1) := by decide +kernel
theorem dX6_shape_10 : decode cX6_shape 10 = .ok (.aload_n 0, 1) := by decide +kernel
theorem dX6_shape_11 : decode cX6_shape 11 = .ok (.getfield 15, 3) := by decide +kernel
theorem dX6_shape_14 : decode cX6_shape 14 = .ok (.aload_n 0, 1) := by decide +kernel
theorem dX6_shape_15 : decode cX6_shape 15 = .ok (.getfield 33, 3) := by decide +kernel
theorem dX6_shape_18 : decode cX6_shape 18 = .ok (.iload_n 2, 1) := by decide +kernel
theorem dX6_shape_19 : decode cX6_shape 19 = .ok (.iastore, 1) := by decide +kernel
theorem dX6_shape_20 : decode cX6_shape 20 = .ok (.aload_n 0, 1) := by decide +kernel
theorem dX6_shape_21 : decode cX6_shape 21 = .ok (.getfield 18, 3) := by decide +kernel
theorem dX6_shape_24 : decode cX6_shape 24 = .ok (.aload_n 0, 1) := by decide +kernel
theorem dX6_shape_25 : decode cX6_shape 25 = .ok (.getfield 33, 3) := by decide +kernel
theorem dX6_shape_28 : decode cX6_shape 28 = .ok (.iload_n 3, 1) := by decide +kernel
theorem dX6_shape_29 : decode cX6_shape 29 = .ok (.iastore, 1) := by decide +kernel
theorem dX6_shape_30 : decode cX6_shape 30 = .ok (.aload_n 0, 1) := by decide +kernel
theorem dX6_shape_31 : decode cX6_shape 31 = .ok (.getfield 21, 3) := by decide +kernel
theorem dX6_shape_34 : decode cX6_shape 34 = .ok (.aload_n 0, 1) := by decide +kernel
theorem dX6_shape_35 : decode cX6_shape 35 = .ok (.getfield 33, 3) := by decide +kernel
theorem dX6_shape_38 : decode cX6_shape 38 = .ok (.iconst 0, 1) := by decide +kernel
theorem dX6_shape_39 : decode cX6_shape 39 = .ok (.iastore, 1) := by decide +kernel
theorem dX6_shape_40 : decode cX6_shape 40 = .ok (.aload_n 0, 1) := by decide +kernel
theorem dX6_shape_41 : decode cX6_shape 41 = .ok (.getfield 24, 3) := by decide +kernel
theorem dX6_shape_44 : decode cX6_shape 44 = .ok (.aload_n 0, 1) := by decide +kernel
theorem dX6_shape_45 : decode cX6_shape 45 = .ok (.getfield 33, 3) := by decide +kernel
theorem dX6_shape_48 : decode cX6_shape 48 = .ok (.bipush (-9), 2) := by decide +kernel
theorem dX6_shape_50 : decode cX6_shape 50 = .ok (.iastore, 1) := by decide +kernel
theorem dX6_shape_51 : decode cX6_shape 51 = .ok (.aload_n 0, 1) := by decide +kernel
theorem dX6_shape_52 : decode cX6_shape 52 = .ok (.getfield 27, 3) := by decide +kernel
theorem dX6_shape_55 : decode cX6_shape 55 = .ok (.aload_n 0, 1) := by decide +kernel
theorem dX6_shape_56 : decode cX6_shape 56 = .ok (.getfield 33, 3) := by decide +kernel
theorem dX6_shape_59 : decode cX6_shape 59 = .ok (.bipush (-9), 2) := by decide +kernel
theorem dX6_shape_61 : decode cX6_shape 61 = .ok (.iastore, 1) := by decide +kernel
theorem dX6_shape_62 : decode cX6_shape 62 = .ok (.aload_n 0, 1) := by decide +kernel
theorem dX6_shape_63 : decode cX6_shape 63 = .ok (.getfield 30, 3) := by decide +kernel
theorem dX6_shape_66 : decode cX6_shape 66 = .ok (.aload_n 0, 1) := by decide +kernel
theorem dX6_shape_67 : decode cX6_shape 67 = .ok (.getfield 33, 3) := by decide +kernel
theorem dX6_shape_70 : decode cX6_shape 70 = .ok (.bipush (-9), 2) := by decide +kernel
theorem dX6_shape_72 : decode cX6_shape 72 = .ok (.iastore, 1) := by decide +kernel
theorem dX6_shape_73 : decode cX6_shape 73 = .ok (.aload_n 0, 1) := by decide +kernel
theorem dX6_shape_74 : decode cX6_shape 74 = .ok (.dup, 1) := by decide +kernel
theorem dX6_shape_75 : decode cX6_shape 75 = .ok (.getfield 33, 3) := by decide +kernel
theorem dX6_shape_78 : decode cX6_shape 78 = .ok (.iconst 1, 1) := by decide +kernel
theorem dX6_shape_79 : decode cX6_shape 79 = .ok (.iadd, 1) := by decide +kernel
theorem dX6_shape_80 : decode cX6_shape 80 = .ok (.putfield 33, 3) := by decide +kernel
theorem dX6_shape_83 : decode cX6_shape 83 = .ok (.aload_n 0, 1) := by decide +kernel
theorem dX6_shape_84 : decode cX6_shape 84 = .ok (.getfield 33, 3) := by decide +kernel
theorem dX6_shape_87 : decode cX6_shape 87 = .ok (.iconst 1, 1) := by decide +kernel
theorem dX6_shape_88 : decode cX6_shape 88 = .ok (.isub, 1) := by decide +kernel
theorem dX6_shape_89 : decode cX6_shape 89 = .ok (.ireturn, 1) := by decide +kernel
theorem dX6_endure_0 : decode cX6_endure 0 = .ok (.aload_n 0, 1) := by decide +kernel
theorem dX6_endure_1 : decode cX6_endure 1 = .ok (.getfield 27, 3) := by decide +kernel
theorem dX6_endure_4 : decode cX6_endure 4 = .ok (.iload_n 1, 1) := by decide +kernel
theorem dX6_endure_5 : decode cX6_endure 5 = .ok (.iload_n 2, 1) := by decide +kernel
theorem dX6_endure_6 : decode cX6_endure 6 = .ok (.iastore, 1) := by decide +kernel
theorem dX6_endure_7 : decode cX6_endure 7 = .ok (.aload_n 3, 1) := by decide +kernel
theorem dX6_endure_8 : decode cX6_endure 8 = .ok (.aload_n 0, 1) := by decide +kernel
theorem dX6_endure_9 : decode cX6_endure 9 = .ok (.getfield 9, 3) := by decide +kernel
theorem dX6_endure_12 : decode cX6_endure 12 = .ok (.iload_n 1, 1) := by decide +kernel
theorem dX6_endure_13 : decode cX6_endure 13 = .ok (.iaload, 1) := by decide +kernel
theorem dX6_endure_14 : decode cX6_endure 14 = .ok (.iload_n 2, 1) := by decide +kernel
theorem dX6_endure_15 : decode cX6_endure 15 = .ok (.invokevirtual 37, 3) := by decide +kernel
theorem dX6_endure_18 : decode cX6_endure 18 = .ok (.ifCond .ne 12, 3) := by decide +kernel
theorem dX6_endure_21 : decode cX6_endure 21 = .ok (.aload_n 0, 1) := by decide +kernel
theorem dX6_endure_22 : decode cX6_endure 22 = .ok (.getfield 21, 3) := by decide +kernel
theorem dX6_endure_25 : decode cX6_endure 25 = .ok (.iload_n 1, 1) := by decide +kernel
theorem dX6_endure_26 : decode cX6_endure 26 = .ok (.iconst 3, 1) := by decide +kernel
theorem dX6_endure_27 : decode cX6_endure 27 = .ok (.iastore, 1) := by decide +kernel
theorem dX6_endure_28 : decode cX6_endure 28 = .ok (.iconst 0, 1) := by decide +kernel
theorem dX6_endure_29 : decode cX6_endure 29 = .ok (.ireturn, 1) := by decide +kernel
theorem dX6_endure_30 : decode cX6_endure 30 = .ok (.aload_n 0, 1) := by decide +kernel
theorem dX6_endure_31 : decode cX6_endure 31 = .ok (.getfield 21, 3) := by decide +kernel
theorem dX6_endure_34 : decode cX6_endure 34 = .ok (.iload_n 1, 1) := by decide +kernel
theorem dX6_endure_35 : decode cX6_endure 35 = .ok (.iconst 1, 1) := by decide +kernel
theorem dX6_endure_36 : decode cX6_endure 36 = .ok (.iastore, 1) := by decide +kernel
theorem dX6_endure_37 : decode cX6_endure 37 = .ok (.aload_n 0, 1) := by decide +kernel
theorem dX6_endure_38 : decode cX6_endure 38 = .ok (.getfield 18, 3) := by decide +kernel
theorem dX6_endure_41 : decode cX6_endure 41 = .ok (.iload_n 1, 1) := by decide +kernel
theorem dX6_endure_42 : decode cX6_endure 42 = .ok (.aload_n 3, 1) := by decide +kernel
theorem dX6_endure_43 : decode cX6_endure 43 = .ok (.aload_n 0, 1) := by decide +kernel
theorem dX6_endure_44 : decode cX6_endure 44 = .ok (.getfield 9, 3) := by decide +kernel
theorem dX6_endure_47 : decode cX6_endure 47 = .ok (.iload_n 1, 1) := by decide +kernel
theorem dX6_endure_48 : decode cX6_endure 48 = .ok (.iaload, 1) := by decide +kernel
theorem dX6_endure_49 : decode cX6_endure 49 = .ok (.aload_n 0, 1) := by decide +kernel
theorem dX6_endure_50 : decode cX6_endure 50 = .ok (.getfield 18, 3) := by decide +kernel
theorem dX6_endure_53 : decode cX6_endure 53 = .ok (.iload_n 1, 1) := by decide +kernel
theorem dX6_endure_54 : decode cX6_endure 54 = .ok (.iaload, 1) := by decide +kernel
theorem dX6_endure_55 : decode cX6_endure 55 = .ok (.invokevirtual 43, 3) := by decide +kernel
theorem dX6_endure_58 : decode cX6_endure 58 = .ok (.iastore, 1) := by decide +kernel
theorem dX6_endure_59 : decode cX6_endure 59 = .ok (.aload_n 0, 1) := by decide +kernel
theorem dX6_endure_60 : decode cX6_endure 60 = .ok (.getfield 30, 3) := by decide +kernel
theorem dX6_endure_63 : decode cX6_endure 63 = .ok (.iload_n 1, 1) := by decide +kernel
theorem dX6_endure_64 : decode cX6_endure 64 = .ok (.aload_n 3, 1) := by decide +kernel
theorem dX6_endure_65 : decode cX6_endure 65 = .ok (.aload_n 0, 1) := by decide +kernel
theorem dX6_endure_66 : decode cX6_endure 66 = .ok (.getfield 9, 3) := by decide +kernel
theorem dX6_endure_69 : decode cX6_endure 69 = .ok (.iload_n 1, 1) := by decide +kernel
theorem dX6_endure_70 : decode cX6_endure 70 = .ok (.iaload, 1) := by decide +kernel
theorem dX6_endure_71 : decode cX6_endure 71 = .ok (.iload_n 2, 1) := by decide +kernel
theorem dX6_endure_72 : decode cX6_endure 72 = .ok (.invokevirtual 47, 3) := by decide +kernel
theorem dX6_endure_75 : decode cX6_endure 75 = .ok (.iastore, 1) := by decide +kernel
theorem dX6_endure_76 : decode cX6_endure 76 = .ok (.iconst 1, 1) := by decide +kernel
theorem dX6_endure_77 : decode cX6_endure 77 = .ok (.ireturn, 1) := by decide +kernel
theorem dX6_isForSale_0 : decode cX6_isForSale 0 = .ok (.aload_n 0, 1) := by decide +kernel
theorem dX6_isForSale_1 : decode cX6_isForSale 1 = .ok (.getfield 21, 3) := by decide +kernel
theorem dX6_isForSale_4 : decode cX6_isForSale 4 = .ok (.iload_n 1, 1) := by decide +kernel
theorem dX6_isForSale_5 : decode cX6_isForSale 5 = .ok (.iaload, 1) := by decide +kernel
theorem dX6_isForSale_6 : decode cX6_isForSale 6 = .ok (.iconst 1, 1) := by decide +kernel
theorem dX6_isForSale_7 : decode cX6_isForSale 7 = .ok (.if_icmp .eq 13, 3) := by decide +kernel
theorem dX6_isForSale_10 : decode cX6_isForSale 10 = .ok (.aload_n 0, 1) := by decide +kernel
theorem dX6_isForSale_11 : decode cX6_isForSale 11 = .ok (.getfield 21, 3) := by decide +kernel
theorem dX6_isForSale_14 : decode cX6_isForSale 14 = .ok (.iload_n 1, 1) := by decide +kernel
theorem dX6_isForSale_15 : decode cX6_isForSale 15 = .ok (.iaload, 1) := by decide +kernel
theorem dX6_isForSale_16 : decode cX6_isForSale 16 = .ok (.iconst 2, 1) := by decide +kernel
theorem dX6_isForSale_17 : decode cX6_isForSale 17 = .ok (.if_icmp .ne 7, 3) := by decide +kernel
theorem dX6_isForSale_20 : decode cX6_isForSale 20 = .ok (.iconst 1, 1) := by decide +kernel
theorem dX6_isForSale_21 : decode cX6_isForSale 21 = .ok (.goto 4, 3) := by decide +kernel
theorem dX6_isForSale_24 : decode cX6_isForSale 24 = .ok (.iconst 0, 1) := by decide +kernel
theorem dX6_isForSale_25 : decode cX6_isForSale 25 = .ok (.ireturn, 1) := by decide +kernel
theorem dX6_inState_0 : decode cX6_inState 0 = .ok (.iconst 0, 1) := by decide +kernel
theorem dX6_inState_1 : decode cX6_inState 1 = .ok (.istore_n 2, 1) := by decide +kernel
theorem dX6_inState_2 : decode cX6_inState 2 = .ok (.iconst 0, 1) := by decide +kernel
theorem dX6_inState_3 : decode cX6_inState 3 = .ok (.istore_n 3, 1) := by decide +kernel
theorem dX6_inState_4 : decode cX6_inState 4 = .ok (.iload_n 3, 1) := by decide +kernel
theorem dX6_inState_5 : decode cX6_inState 5 = .ok (.aload_n 0, 1) := by decide +kernel
theorem dX6_inState_6 : decode cX6_inState 6 = .ok (.getfield 33, 3) := by decide +kernel
theorem dX6_inState_9 : decode cX6_inState 9 = .ok (.if_icmp .ge 22, 3) := by decide +kernel
theorem dX6_inState_12 : decode cX6_inState 12 = .ok (.aload_n 0, 1) := by decide +kernel
theorem dX6_inState_13 : decode cX6_inState 13 = .ok (.getfield 21, 3) := by decide +kernel
theorem dX6_inState_16 : decode cX6_inState 16 = .ok (.iload_n 3, 1) := by decide +kernel
theorem dX6_inState_17 : decode cX6_inState 17 = .ok (.iaload, 1) := by decide +kernel
theorem dX6_inState_18 : decode cX6_inState 18 = .ok (.iload_n 1, 1) := by decide +kernel
theorem dX6_inState_19 : decode cX6_inState 19 = .ok (.if_icmp .ne 6, 3) := by decide +kernel
theorem dX6_inState_22 : decode cX6_inState 22 = .ok (.iinc 2 1, 3) := by decide +kernel
theorem dX6_inState_25 : decode cX6_inState 25 = .ok (.iinc 3 1, 3) := by decide +kernel
theorem dX6_inState_28 : decode cX6_inState 28 = .ok (.goto (-24), 3) := by decide +kernel
theorem dX6_inState_31 : decode cX6_inState 31 = .ok (.iload_n 2, 1) := by decide +kernel
theorem dX6_inState_32 : decode cX6_inState 32 = .ok (.ireturn, 1) := by decide +kernel
theorem dX7_init_0 : decode cX7_init 0 = .ok (.aload_n 0, 1) := by decide +kernel
theorem dX7_init_1 : decode cX7_init 1 = .ok (.invokespecial 3, 3) := by decide +kernel
theorem dX7_init_4 : decode cX7_init 4 = .ok (.aload_n 0, 1) := by decide +kernel
theorem dX7_init_5 : decode cX7_init 5 = .ok (.bipush 32, 2) := by decide +kernel
theorem dX7_init_7 : decode cX7_init 7 = .ok (.newarray .int, 2) := by decide +kernel
theorem dX7_init_9 : decode cX7_init 9 = .ok (.putfield 9, 3) := by decide +kernel
theorem dX7_init_12 : decode cX7_init 12 = .ok (.aload_n 0, 1) := by decide +kernel
theorem dX7_init_13 : decode cX7_init 13 = .ok (.bipush 32, 2) := by decide +kernel
theorem dX7_init_15 : decode cX7_init 15 = .ok (.newarray .int, 2) := by decide +kernel
theorem dX7_init_17 : decode cX7_init 17 = .ok (.putfield 15, 3) := by decide +kernel
theorem dX7_init_20 : decode cX7_init 20 = .ok (.aload_n 0, 1) := by decide +kernel
theorem dX7_init_21 : decode cX7_init 21 = .ok (.bipush 32, 2) := by decide +kernel
theorem dX7_init_23 : decode cX7_init 23 = .ok (.newarray .int, 2) := by decide +kernel
theorem dX7_init_25 : decode cX7_init 25 = .ok (.putfield 18, 3) := by decide +kernel
theorem dX7_init_28 : decode cX7_init 28 = .ok (.aload_n 0, 1) := by decide +kernel
theorem dX7_init_29 : decode cX7_init 29 = .ok (.bipush 60, 2) := by decide +kernel
theorem dX7_init_31 : decode cX7_init 31 = .ok (.newarray .int, 2) := by decide +kernel
theorem dX7_init_33 : decode cX7_init 33 = .ok (.putfield 21, 3) := by decide +kernel
theorem dX7_init_36 : decode cX7_init 36 = .ok (.aload_n 0, 1) := by decide +kernel
theorem dX7_init_37 : decode cX7_init 37 = .ok (.bipush 60, 2) := by decide +kernel
theorem dX7_init_39 : decode cX7_init 39 = .ok (.newarray .int, 2) := by decide +kernel
theorem dX7_init_41 : decode cX7_init 41 = .ok (.putfield 24, 3) := by decide +kernel
theorem dX7_init_44 : decode cX7_init 44 = .ok (.aload_n 0, 1) := by decide +kernel
theorem dX7_init_45 : decode cX7_init 45 = .ok (.bipush 60, 2) := by decide +kernel
theorem dX7_init_47 : decode cX7_init 47 = .ok (.newarray .int, 2) := by decide +kernel
theorem dX7_init_49 : decode cX7_init 49 = .ok (.putfield 27, 3) := by decide +kernel
theorem dX7_init_52 : decode cX7_init 52 = .ok (.aload_n 0, 1) := by decide +kernel
theorem dX7_init_53 : decode cX7_init 53 = .ok (.iconst 2, 1) := by decide +kernel
theorem dX7_init_54 : decode cX7_init 54 = .ok (.newarray .int, 2) := by decide +kernel
theorem dX7_init_56 : decode cX7_init 56 = .ok (.putfield 30, 3) := by decide +kernel
theorem dX7_init_59 : decode cX7_init 59 = .ok (.aload_n 0, 1) := by decide +kernel
theorem dX7_init_60 : decode cX7_init 60 = .ok (.iconst 2, 1) := by decide +kernel
theorem dX7_init_61 : decode cX7_init 61 = .ok (.newarray .int, 2) := by decide +kernel
theorem dX7_init_63 : decode cX7_init 63 = .ok (.putfield 33, 3) := by decide +kernel
theorem dX7_init_66 : decode cX7_init 66 = .ok (.aload_n 0, 1) := by decide +kernel
theorem dX7_init_67 : decode cX7_init 67 = .ok (.iconst 0, 1) := by decide +kernel
theorem dX7_init_68 : decode cX7_init 68 = .ok (.putfield 36, 3) := by decide +kernel
theorem dX7_init_71 : decode cX7_init 71 = .ok (.aload_n 0, 1) := by decide +kernel
theorem dX7_init_72 : decode cX7_init 72 = .ok (.iconst 0, 1) := by decide +kernel
theorem dX7_init_73 : decode cX7_init 73 = .ok (.putfield 40, 3) := by decide +kernel
theorem dX7_init_76 : decode cX7_init 76 = .ok (.aload_n 0, 1) := by decide +kernel
theorem dX7_init_77 : decode cX7_init 77 = .ok (.bipush (-9), 2) := by decide +kernel
theorem dX7_init_79 : decode cX7_init 79 = .ok (.putfield 43, 3) := by decide +kernel
theorem dX7_init_82 : decode cX7_init 82 = .ok (.return_, 1) := by decide +kernel
theorem dX7_tellSight_0 : decode cX7_tellSight 0 = .ok (.iconst 0, 1) := by decide +kernel
theorem dX7_tellSight_1 : decode cX7_tellSight 1 = .ok (.istore 4, 2) := by decide +kernel
theorem dX7_tellSight_3 : decode cX7_tellSight 3 = .ok (.iload 4, 2) := by decide +kernel
theorem dX7_tellSight_5 : decode cX7_tellSight 5 = .ok (.aload_n 0, 1) := by decide +kernel
theorem dX7_tellSight_6 : decode cX7_tellSight 6 = .ok (.getfield 36, 3) := by decide +kernel
theorem dX7_tellSight_9 : decode cX7_tellSight 9 = .ok (.if_icmp .ge 33, 3) := by decide +kernel
theorem dX7_tellSight_12 : decode cX7_tellSight 12 = .ok (.aload_n 0, 1) := by decide +kernel
theorem dX7_tellSight_13 : decode cX7_tellSight 13 = .ok (.getfield 9, 3) := by decide +kernel
theorem dX7_tellSight_16 : decode cX7_tellSight 16 = .ok (.iload 4, 2) := by decide +kernel
theorem dX7_tellSight_18 : decode cX7_tellSight 18 = .ok (.iaload, 1) := by decide +kernel
theorem dX7_tellSight_19 : decode cX7_tellSight 19 = .ok (.iload_n 1, 1) := by decide +kernel
theorem dX7_tellSight_20 : decode cX7_tellSight 20 = .ok (.if_icmp .ne 16, 3) := by decide +kernel
theorem dX7_tellSight_23 : decode cX7_tellSight 23 = .ok (.aload_n 0, 1) := by decide +kernel
theorem dX7_tellSight_24 : decode cX7_tellSight 24 = .ok (.getfield 15, 3) := by decide +kernel
theorem dX7_tellSight_27 : decode cX7_tellSight 27 = .ok (.iload 4, 2) := by decide +kernel
theorem dX7_tellSight_29 : decode cX7_tellSight 29 = .ok (.iaload, 1) := by decide +kernel
theorem dX7_tellSight_30 : decode cX7_tellSight 30 = .ok (.iload_n 2, 1) := by decide +kernel
theorem dX7_tellSight_31 : decode cX7_tellSight 31 = .ok (.if_icmp .ne 5, 3) := by decide +kernel
theorem dX7_tellSight_34 : decode cX7_tellSight 34 = .ok (.iconst 0, 1) := by decide +kernel
theorem dX7_tellSight_35 : decode cX7_tellSight 35 = .ok (.ireturn, 1) := by decide +kernel
theorem dX7_tellSight_36 : decode cX7_tellSight 36 = .ok (.iinc 4 1, 3) := by decide +kernel
theorem dX7_tellSight_39 : decode cX7_tellSight 39 = .ok (.goto (-36), 3) := by decide +kernel
theorem dX7_tellSight_42 : decode cX7_tellSight 42 = .ok (.aload_n 0, 1) := by decide +kernel
theorem dX7_tellSight_43 : decode cX7_tellSight 43 = .ok (.getfield 36, 3) := by decide +kernel
theorem dX7_tellSight_46 : decode cX7_tellSight 46 = .ok (.bipush 32, 2) := by decide +kernel
theorem dX7_tellSight_48 : decode cX7_tellSight 48 = .ok (.if_icmp .lt 5, 3) := by decide +kernel
theorem dX7_tellSight_51 : decode cX7_tellSight 51 = .ok (.iconst 0, 1) := by decide +kernel
theorem dX7_tellSight_52 : decode cX7_tellSight 52 = .ok (.ireturn, 1) := by decide +kernel
theorem dX7_tellSight_53 : decode cX7_tellSight 53 = .ok (.aload_n 0, 1) := by decide +kernel
theorem dX7_tellSight_54 : decode cX7_tellSight 54 = .ok (.getfield 9, 3) := by decide +kernel
theorem dX7_tellSight_57 : decode cX7_tellSight 57 = .ok (.aload_n 0, 1) := by decide +kernel
theorem dX7_tellSight_58 : decode cX7_tellSight 58 = .ok (.getfield 36, 3) := by decide +kernel
theorem dX7_tellSight_61 : decode cX7_tellSight 61 = .ok (.iload_n 1, 1) := by decide +kernel
theorem dX7_tellSight_62 : decode cX7_tellSight 62 = .ok (.iastore, 1) := by decide +kernel
theorem dX7_tellSight_63 : decode cX7_tellSight 63 = .ok (.aload_n 0, 1) := by decide +kernel
theorem dX7_tellSight_64 : decode cX7_tellSight 64 = .ok (.getfield 15, 3) := by decide +kernel
theorem dX7_tellSight_67 : decode cX7_tellSight 67 = .ok (.aload_n 0, 1) := by decide +kernel
theorem dX7_tellSight_68 : decode cX7_tellSight 68 = .ok (.getfield 36, 3) := by decide +kernel
theorem dX7_tellSight_71 : decode cX7_tellSight 71 = .ok (.iload_n 2, 1) := by decide +kernel
theorem dX7_tellSight_72 : decode cX7_tellSight 72 = .ok (.iastore, 1) := by decide +kernel
theorem dX7_tellSight_73 : decode cX7_tellSight 73 = .ok (.aload_n 0, 1) := by decide +kernel
theorem dX7_tellSight_74 : decode cX7_tellSight 74 = .ok (.getfield 18, 3) := by decide +kernel
theorem dX7_tellSight_77 : decode cX7_tellSight 77 = .ok (.aload_n 0, 1) := by decide +kernel
theorem dX7_tellSight_78 : decode cX7_tellSight 78 = .ok (.getfield 36, 3) := by decide +kernel
theorem dX7_tellSight_81 : decode cX7_tellSight 81 = .ok (.iload_n 3, 1) := by decide +kernel
theorem dX7_tellSight_82 : decode cX7_tellSight 82 = .ok (.iastore, 1) := by decide +kernel
theorem dX7_tellSight_83 : decode cX7_tellSight 83 = .ok (.aload_n 0, 1) := by decide +kernel
theorem dX7_tellSight_84 : decode cX7_tellSight 84 = .ok (.dup, 1) := by decide +kernel
theorem dX7_tellSight_85 : decode cX7_tellSight 85 = .ok (.getfield 36, 3) := by decide +kernel
theorem dX7_tellSight_88 : decode cX7_tellSight 88 = .ok (.iconst 1, 1) := by decide +kernel
theorem dX7_tellSight_89 : decode cX7_tellSight 89 = .ok (.iadd, 1) := by decide +kernel
theorem dX7_tellSight_90 : decode cX7_tellSight 90 = .ok (.putfield 36, 3) := by decide +kernel
theorem dX7_tellSight_93 : decode cX7_tellSight 93 = .ok (.iconst 1, 1) := by decide +kernel
theorem dX7_tellSight_94 : decode cX7_tellSight 94 = .ok (.ireturn, 1) := by decide +kernel
theorem dX7_talkedOn_0 : decode cX7_talkedOn 0 = .ok (.iconst 0, 1) := by decide +kernel
theorem dX7_talkedOn_1 : decode cX7_talkedOn 1 = .ok (.istore 4, 2) := by decide +kernel
theorem dX7_talkedOn_3 : decode cX7_talkedOn 3 = .ok (.iload 4, 2) := by decide +kernel
theorem dX7_talkedOn_5 : decode cX7_talkedOn 5 = .ok (.aload_n 0, 1) := by decide +kernel
theorem dX7_talkedOn_6 : decode cX7_talkedOn 6 = .ok (.getfield 40, 3) := by decide +kernel
theorem dX7_talkedOn_9 : decode cX7_talkedOn 9 = .ok (.if_icmp .ge 90, 3) := by decide +kernel
theorem dX7_talkedOn_12 : decode cX7_talkedOn 12 = .ok (.aload_n 0, 1) := by decide +kernel
theorem dX7_talkedOn_13 : decode cX7_talkedOn 13 = .ok (.getfield 21, 3) := by decide +kernel
theorem dX7_talkedOn_16 : decode cX7_talkedOn 16 = .ok (.iload 4, 2) := by decide +kernel
theorem dX7_talkedOn_18 : decode cX7_talkedOn 18 = .ok (.iaload, 1) := by decide +kernel
theorem dX7_talkedOn_19 : decode cX7_talkedOn 19 = .ok (.iload_n 1, 1) := by decide +kernel
theorem dX7_talkedOn_20 : decode cX7_talkedOn 20 = .ok (.if_icmp .ne 18, 3) := by decide +kernel
theorem dX7_talkedOn_23 : decode cX7_talkedOn 23 = .ok (.aload_n 0, 1) := by decide +kernel
theorem dX7_talkedOn_24 : decode cX7_talkedOn 24 = .ok (.getfield 24, 3) := by decide +kernel
theorem dX7_talkedOn_27 : decode cX7_talkedOn 27 = .ok (.iload 4, 2) := by decide +kernel
theorem dX7_talkedOn_29 : decode cX7_talkedOn 29 = .ok (.iaload, 1) := by decide +kernel
theorem dX7_talkedOn_30 : decode cX7_talkedOn 30 = .ok (.iload_n 2, 1) := by decide +kernel
theorem dX7_talkedOn_31 : decode cX7_talkedOn 31 = .ok (.if_icmp .ne 7, 3) := by decide +kernel
theorem dX7_talkedOn_34 : decode cX7_talkedOn 34 = .ok (.iconst 1, 1) := by decide +kernel
theorem dX7_talkedOn_35 : decode cX7_talkedOn 35 = .ok (.goto 4, 3) := by decide +kernel
theorem dX7_talkedOn_38 : decode cX7_talkedOn 38 = .ok (.iconst 0, 1) := by decide +kernel
theorem dX7_talkedOn_39 : decode cX7_talkedOn 39 = .ok (.istore 5, 2) := by decide +kernel
theorem dX7_talkedOn_41 : decode cX7_talkedOn 41 = .ok (.aload_n 0, 1) := by decide +kernel
theorem dX7_talkedOn_42 : decode cX7_talkedOn 42 = .ok (.getfield 21, 3) := by decide +kernel
theorem dX7_talkedOn_45 : decode cX7_talkedOn 45 = .ok (.iload 4, 2) := by decide +kernel
theorem dX7_talkedOn_47 : decode cX7_talkedOn 47 = .ok (.iaload, 1) := by decide +kernel
theorem dX7_talkedOn_48 : decode cX7_talkedOn 48 = .ok (.iload_n 2, 1) := by decide +kernel
theorem dX7_talkedOn_49 : decode cX7_talkedOn 49 = .ok (.if_icmp .ne 18, 3) := by decide +kernel
theorem dX7_talkedOn_52 : decode cX7_talkedOn 52 = .ok (.aload_n 0, 1) := by decide +kernel
theorem dX7_talkedOn_53 : decode cX7_talkedOn 53 = .ok (.getfield 24, 3) := by decide +kernel
theorem dX7_talkedOn_56 : decode cX7_talkedOn 56 = .ok (.iload 4, 2) := by decide +kernel
theorem dX7_talkedOn_58 : decode cX7_talkedOn 58 = .ok (.iaload, 1) := by decide +kernel
theorem dX7_talkedOn_59 : decode cX7_talkedOn 59 = .ok (.iload_n 1, 1) := by decide +kernel
theorem dX7_talkedOn_60 : decode cX7_talkedOn 60 = .ok (.if_icmp .ne 7, 3) := by decide +kernel
theorem dX7_talkedOn_63 : decode cX7_talkedOn 63 = .ok (.iconst 1, 1) := by decide +kernel
theorem dX7_talkedOn_64 : decode cX7_talkedOn 64 = .ok (.goto 4, 3) := by decide +kernel
theorem dX7_talkedOn_67 : decode cX7_talkedOn 67 = .ok (.iconst 0, 1) := by decide +kernel
theorem dX7_talkedOn_68 : decode cX7_talkedOn 68 = .ok (.istore 6, 2) := by decide +kernel
theorem dX7_talkedOn_70 : decode cX7_talkedOn 70 = .ok (.aload_n 0, 1) := by decide +kernel
theorem dX7_talkedOn_71 : decode cX7_talkedOn 71 = .ok (.getfield 27, 3) := by decide +kernel
theorem dX7_talkedOn_74 : decode cX7_talkedOn 74 = .ok (.iload 4, 2) := by decide +kernel
theorem dX7_talkedOn_76 : decode cX7_talkedOn 76 = .ok (.iaload, 1) := by decide +kernel
theorem dX7_talkedOn_77 : decode cX7_talkedOn 77 = .ok (.iload_n 3, 1) := by decide +kernel
theorem dX7_talkedOn_78 : decode cX7_talkedOn 78 = .ok (.if_icmp .ne 15, 3) := by decide +kernel
theorem dX7_talkedOn_81 : decode cX7_talkedOn 81 = .ok (.iload 5, 2) := by decide +kernel
theorem dX7_talkedOn_83 : decode cX7_talkedOn 83 = .ok (.ifCond .ne 8, 3) := by decide +kernel
theorem dX7_talkedOn_86 : decode cX7_talkedOn 86 = .ok (.iload 6, 2) := by decide +kernel
theorem dX7_talkedOn_88 : decode cX7_talkedOn 88 = .ok (.ifCond .eq 5, 3) := by decide +kernel
theorem dX7_talkedOn_91 : decode cX7_talkedOn 91 = .ok (.iconst 1, 1) := by decide +kernel
theorem dX7_talkedOn_92 : decode cX7_talkedOn 92 = .ok (.ireturn, 1) := by decide +kernel
theorem dX7_talkedOn_93 : decode cX7_talkedOn 93 = .ok (.iinc 4 1, 3) := by decide +kernel
theorem dX7_talkedOn_96 : decode cX7_talkedOn 96 = .ok (.goto (-93), 3) := by decide +kernel
theorem dX7_talkedOn_99 : decode cX7_talkedOn 99 = .ok (.iconst 0, 1) := by decide +kernel
theorem dX7_talkedOn_100 : decode cX7_talkedOn 100 = .ok (.ireturn, 1) := by decide +kernel
theorem dX7_tellTalk_0 : decode cX7_tellTalk 0 = .ok (.aload_n 0, 1) := by decide +kernel
theorem dX7_tellTalk_1 : decode cX7_tellTalk 1 = .ok (.getfield 21, 3) := by decide +kernel
theorem dX7_tellTalk_4 : decode cX7_tellTalk 4 = .ok (.aload_n 0, 1) := by decide +kernel
theorem dX7_tellTalk_5 : decode cX7_tellTalk 5 = .ok (.getfield 40, 3) := by decide +kernel
theorem dX7_tellTalk_8 : decode cX7_tellTalk 8 = .ok (.iload_n 1, 1) := by decide +kernel
theorem dX7_tellTalk_9 : decode cX7_tellTalk 9 = .ok (.iastore, 1) := by decide +kernel
theorem dX7_tellTalk_10 : decode cX7_tellTalk 10 = .ok (.aload_n 0, 1) := by decide +kernel
theorem dX7_tellTalk_11 : decode cX7_tellTalk 11 = .ok (.getfield 24, 3) := by decide +kernel
theorem dX7_tellTalk_14 : decode cX7_tellTalk 14 = .ok (.aload_n 0, 1) := by decide +kernel
theorem dX7_tellTalk_15 : decode cX7_tellTalk 15 = .ok (.getfield 40, 3) := by decide +kernel
theorem dX7_tellTalk_18 : decode cX7_tellTalk 18 = .ok (.iload_n 2, 1) := by decide +kernel
theorem dX7_tellTalk_19 : decode cX7_tellTalk 19 = .ok (.iastore, 1) := by decide +kernel
theorem dX7_tellTalk_20 : decode cX7_tellTalk 20 = .ok (.aload_n 0, 1) := by decide +kernel
theorem dX7_tellTalk_21 : decode cX7_tellTalk 21 = .ok (.getfield 27, 3) := by decide +kernel
theorem dX7_tellTalk_24 : decode cX7_tellTalk 24 = .ok (.aload_n 0, 1) := by decide +kernel
theorem dX7_tellTalk_25 : decode cX7_tellTalk 25 = .ok (.getfield 40, 3) := by decide +kernel
theorem dX7_tellTalk_28 : decode cX7_tellTalk 28 = .ok (.iload_n 3, 1) := by decide +kernel
theorem dX7_tellTalk_29 : decode cX7_tellTalk 29 = .ok (.iastore, 1) := by decide +kernel
theorem dX7_tellTalk_30 : decode cX7_tellTalk 30 = .ok (.aload_n 0, 1) := by decide +kernel
theorem dX7_tellTalk_31 : decode cX7_tellTalk 31 = .ok (.dup, 1) := by decide +kernel
theorem dX7_tellTalk_32 : decode cX7_tellTalk 32 = .ok (.getfield 40, 3) := by decide +kernel
theorem dX7_tellTalk_35 : decode cX7_tellTalk 35 = .ok (.iconst 1, 1) := by decide +kernel
theorem dX7_tellTalk_36 : decode cX7_tellTalk 36 = .ok (.iadd, 1) := by decide +kernel
theorem dX7_tellTalk_37 : decode cX7_tellTalk 37 = .ok (.putfield 40, 3) := by decide +kernel
theorem dX7_tellTalk_40 : decode cX7_tellTalk 40 = .ok (.return_, 1) := by decide +kernel
theorem dX7_retell_0 : decode cX7_retell 0 = .ok (.aload_n 0, 1) := by decide +kernel
theorem dX7_retell_1 : decode cX7_retell 1 = .ok (.getfield 30, 3) := by decide +kernel
theorem dX7_retell_4 : decode cX7_retell 4 = .ok (.iconst 0, 1) := by decide +kernel
theorem dX7_retell_5 : decode cX7_retell 5 = .ok (.iconst 0, 1) := by decide +kernel
theorem dX7_retell_6 : decode cX7_retell 6 = .ok (.iastore, 1) := by decide +kernel
theorem dX7_retell_7 : decode cX7_retell 7 = .ok (.aload_n 0, 1) := by decide +kernel
theorem dX7_retell_8 : decode cX7_retell 8 = .ok (.getfield 30, 3) := by decide +kernel
theorem dX7_retell_11 : decode cX7_retell 11 = .ok (.iconst 1, 1) := by decide +kernel
theorem dX7_retell_12 : decode cX7_retell 12 = .ok (.iconst 0, 1) := by decide +kernel
theorem dX7_retell_13 : decode cX7_retell 13 = .ok (.iastore, 1) := by decide +kernel
theorem dX7_retell_14 : decode cX7_retell 14 = .ok (.aload_n 0, 1) := by decide +kernel
theorem dX7_retell_15 : decode cX7_retell 15 = .ok (.bipush (-9), 2) := by decide +kernel
theorem dX7_retell_17 : decode cX7_retell 17 = .ok (.putfield 43, 3) := by decide +kernel
theorem dX7_retell_20 : decode cX7_retell 20 = .ok (.iconst 0, 1) := by decide +kernel
theorem dX7_retell_21 : decode cX7_retell 21 = .ok (.istore_n 2, 1) := by decide +kernel
theorem dX7_retell_22 : decode cX7_retell 22 = .ok (.iconst 0, 1) := by decide +kernel
theorem dX7_retell_23 : decode cX7_retell 23 = .ok (.istore_n 3, 1) := by decide +kernel
theorem dX7_retell_24 : decode cX7_retell 24 = .ok (.iconst 0, 1) := by decide +kernel
theorem dX7_retell_25 : decode cX7_retell 25 = .ok (.istore 4, 2) := by decide +kernel
theorem dX7_retell_27 : decode cX7_retell 27 = .ok (.iload 4, 2) := by decide +kernel
theorem dX7_retell_29 : decode cX7_retell 29 = .ok (.bipush 60, 2) := by decide +kernel
theorem dX7_retell_31 : decode cX7_retell 31 = .ok (.if_icmp .ge 36, 3) := by decide +kernel
theorem dX7_retell_34 : decode cX7_retell 34 = .ok (.iload_n 3, 1) := by decide +kernel
theorem dX7_retell_35 : decode cX7_retell 35 = .ok (.aload_n 0, 1) := by decide +kernel
theorem dX7_retell_36 : decode cX7_retell 36 = .ok (.getfield 40, 3) := by decide +kernel
theorem dX7_retell_39 : decode cX7_retell 39 = .ok (.if_icmp .ge 28, 3) := by decide +kernel
theorem dX7_retell_42 : decode cX7_retell 42 = .ok (.aload_n 0, 1) := by decide +kernel
theorem dX7_retell_43 : decode cX7_retell 43 = .ok (.iload_n 2, 1) := by decide +kernel
theorem dX7_retell_44 : decode cX7_retell 44 = .ok (.aload_n 0, 1) := by decide +kernel
theorem dX7_retell_45 : decode cX7_retell 45 = .ok (.getfield 27, 3) := by decide +kernel
theorem dX7_retell_48 : decode cX7_retell 48 = .ok (.iload_n 3, 1) := by decide +kernel
theorem dX7_retell_49 : decode cX7_retell 49 = .ok (.iaload, 1) := by decide +kernel
theorem dX7_retell_50 : decode cX7_retell 50 = .ok (.invokevirtual 46, 3) := by decide +kernel
theorem dX7_retell_53 : decode cX7_retell 53 = .ok (.istore_n 2, 1) := by decide +kernel
theorem dX7_retell_54 : decode cX7_retell 54 = .ok (.aload_n 0, 1) := by decide +kernel
theorem dX7_retell_55 : decode cX7_retell 55 = .ok (.iload_n 3, 1) := by decide +kernel
theorem dX7_retell_56 : decode cX7_retell 56 = .ok (.iload_n 1, 1) := by decide +kernel
theorem dX7_retell_57 : decode cX7_retell 57 = .ok (.invokevirtual 50, 3) := by decide +kernel
theorem dX7_retell_60 : decode cX7_retell 60 = .ok (.istore_n 3, 1) := by decide +kernel
theorem dX7_retell_61 : decode cX7_retell 61 = .ok (.iinc 4 1, 3) := by decide +kernel
theorem dX7_retell_64 : decode cX7_retell 64 = .ok (.goto (-37), 3) := by decide +kernel
theorem dX7_retell_67 : decode cX7_retell 67 = .ok (.aload_n 0, 1) := by decide +kernel
theorem dX7_retell_68 : decode cX7_retell 68 = .ok (.iload_n 2, 1) := by decide +kernel
theorem dX7_retell_69 : decode cX7_retell 69 = .ok (.sipush 4000, 3) := by decide +kernel
theorem dX7_retell_72 : decode cX7_retell 72 = .ok (.invokevirtual 46, 3) := by decide +kernel
theorem dX7_retell_75 : decode cX7_retell 75 = .ok (.pop, 1) := by decide +kernel
theorem dX7_retell_76 : decode cX7_retell 76 = .ok (.return_, 1) := by decide +kernel
theorem dX7_seeTill_0 : decode cX7_seeTill 0 = .ok (.iload_n 1, 1) := by decide +kernel
theorem dX7_seeTill_1 : decode cX7_seeTill 1 = .ok (.istore_n 3, 1) := by decide +kernel
theorem dX7_seeTill_2 : decode cX7_seeTill 2 = .ok (.iload_n 3, 1) := by decide +kernel
theorem dX7_seeTill_3 : decode cX7_seeTill 3 = .ok (.aload_n 0, 1) := by decide +kernel
theorem dX7_seeTill_4 : decode cX7_seeTill 4 = .ok (.getfield 36, 3) := by decide +kernel
theorem dX7_seeTill_7 : decode cX7_seeTill 7 = .ok (.if_icmp .ge 51, 3) := by decide +kernel
theorem dX7_seeTill_10 : decode cX7_seeTill 10 = .ok (.aload_n 0, 1) := by decide +kernel
theorem dX7_seeTill_11 : decode cX7_seeTill 11 = .ok (.getfield 18, 3) := by decide +kernel
theorem dX7_seeTill_14 : decode cX7_seeTill 14 = .ok (.iload_n 3, 1) := by decide +kernel
theorem dX7_seeTill_15 : decode cX7_seeTill 15 = .ok (.iaload, 1) := by decide +kernel
theorem dX7_seeTill_16 : decode cX7_seeTill 16 = .ok (.iload_n 2, 1) := by decide +kernel
theorem dX7_seeTill_17 : decode cX7_seeTill 17 = .ok (.if_icmp .gt 41, 3) := by decide +kernel
theorem dX7_seeTill_20 : decode cX7_seeTill 20 = .ok (.aload_n 0, 1) := by decide +kernel
theorem dX7_seeTill_21 : decode cX7_seeTill 21 = .ok (.getfield 30, 3) := by decide +kernel
theorem dX7_seeTill_24 : decode cX7_seeTill 24 = .ok (.aload_n 0, 1) := by decide +kernel
theorem dX7_seeTill_25 : decode cX7_seeTill 25 = .ok (.getfield 15, 3) := by decide +kernel
theorem dX7_seeTill_28 : decode cX7_seeTill 28 = .ok (.iload_n 3, 1) := by decide +kernel
theorem dX7_seeTill_29 : decode cX7_seeTill 29 = .ok (.iaload, 1) := by decide +kernel
theorem dX7_seeTill_30 : decode cX7_seeTill 30 = .ok (.dup2, 1) := by decide +kernel
theorem dX7_seeTill_31 : decode cX7_seeTill 31 = .ok (.iaload, 1) := by decide +kernel
theorem dX7_seeTill_32 : decode cX7_seeTill 32 = .ok (.iconst 1, 1) := by decide +kernel
theorem dX7_seeTill_33 : decode cX7_seeTill 33 = .ok (.aload_n 0, 1) := by decide +kernel
theorem dX7_seeTill_34 : decode cX7_seeTill 34 = .ok (.getfield 9, 3) := by decide +kernel
theorem dX7_seeTill_37 : decode cX7_seeTill 37 = .ok (.iload_n 3, 1) := by decide +kernel
theorem dX7_seeTill_38 : decode cX7_seeTill 38 = .ok (.iaload, 1) := by decide +kernel
theorem dX7_seeTill_39 : decode cX7_seeTill 39 = .ok (.ishl, 1) := by decide +kernel
theorem dX7_seeTill_40 : decode cX7_seeTill 40 = .ok (.ior, 1) := by decide +kernel
theorem dX7_seeTill_41 : decode cX7_seeTill 41 = .ok (.iastore, 1) := by decide +kernel
theorem dX7_seeTill_42 : decode cX7_seeTill 42 = .ok (.aload_n 0, 1) := by decide +kernel
theorem dX7_seeTill_43 : decode cX7_seeTill 43 = .ok (.aload_n 0, 1) := by decide +kernel
theorem dX7_seeTill_44 : decode cX7_seeTill 44 = .ok (.getfield 18, 3) := by decide +kernel
theorem dX7_seeTill_47 : decode cX7_seeTill 47 = .ok (.iload_n 3, 1) := by decide +kernel
theorem dX7_seeTill_48 : decode cX7_seeTill 48 = .ok (.iaload, 1) := by decide +kernel
theorem dX7_seeTill_49 : decode cX7_seeTill 49 = .ok (.invokevirtual 53, 3) := by decide +kernel
theorem dX7_seeTill_52 : decode cX7_seeTill 52 = .ok (.iinc 3 1, 3) := by decide +kernel
theorem dX7_seeTill_55 : decode cX7_seeTill 55 = .ok (.goto (-53), 3) := by decide +kernel
theorem dX7_seeTill_58 : decode cX7_seeTill 58 = .ok (.iload_n 3, 1) := by decide +kernel
theorem dX7_seeTill_59 : decode cX7_seeTill 59 = .ok (.ireturn, 1) := by decide +kernel
theorem dX7_talkAllDay_0 : decode cX7_talkAllDay 0 = .ok (.aload_n 0, 1) := by decide +kernel
theorem dX7_talkAllDay_1 : decode cX7_talkAllDay 1 = .ok (.getfield 27, 3) := by decide +kernel
theorem dX7_talkAllDay_4 : decode cX7_talkAllDay 4 = .ok (.iload_n 1, 1) := by decide +kernel
theorem dX7_talkAllDay_5 : decode cX7_talkAllDay 5 = .ok (.iaload, 1) := by decide +kernel
theorem dX7_talkAllDay_6 : decode cX7_talkAllDay 6 = .ok (.istore_n 3, 1) := by decide +kernel
theorem dX7_talkAllDay_7 : decode cX7_talkAllDay 7 = .ok (.aload_n 0, 1) := by decide +kernel
theorem dX7_talkAllDay_8 : decode cX7_talkAllDay 8 = .ok (.getfield 33, 3) := by decide +kernel
theorem dX7_talkAllDay_11 : decode cX7_talkAllDay 11 = .ok (.iconst 0, 1) := by decide +kernel
theorem dX7_talkAllDay_12 : decode cX7_talkAllDay 12 = .ok (.aload_n 0, 1) := by decide +kernel
theorem dX7_talkAllDay_13 : decode cX7_talkAllDay 13 = .ok (.getfield 30, 3) := by decide +kernel
theorem dX7_talkAllDay_16 : decode cX7_talkAllDay 16 = .ok (.iconst 0, 1) := by decide +kernel
theorem dX7_talkAllDay_17 : decode cX7_talkAllDay 17 = .ok (.iaload, 1) := by decide +kernel
theorem dX7_talkAllDay_18 : decode cX7_talkAllDay 18 = .ok (.iastore, 1) := by decide +kernel
theorem dX7_talkAllDay_19 : decode cX7_talkAllDay 19 = .ok (.aload_n 0, 1) := by decide +kernel
theorem dX7_talkAllDay_20 : decode cX7_talkAllDay 20 = .ok (.getfield 33, 3) := by decide +kernel
theorem dX7_talkAllDay_23 : decode cX7_talkAllDay 23 = .ok (.iconst 1, 1) := by decide +kernel
theorem dX7_talkAllDay_24 : decode cX7_talkAllDay 24 = .ok (.aload_n 0, 1) := by decide +kernel
theorem dX7_talkAllDay_25 : decode cX7_talkAllDay 25 = .ok (.getfield 30, 3) := by decide +kernel
theorem dX7_talkAllDay_28 : decode cX7_talkAllDay 28 = .ok (.iconst 1, 1) := by decide +kernel
theorem dX7_talkAllDay_29 : decode cX7_talkAllDay 29 = .ok (.iaload, 1) := by decide +kernel
theorem dX7_talkAllDay_30 : decode cX7_talkAllDay 30 = .ok (.iastore, 1) := by decide +kernel
theorem dX7_talkAllDay_31 : decode cX7_talkAllDay 31 = .ok (.iload_n 1, 1) := by decide +kernel
theorem dX7_talkAllDay_32 : decode cX7_talkAllDay 32 = .ok (.istore 4, 2) := by decide +kernel
theorem dX7_talkAllDay_34 : decode cX7_talkAllDay 34 = .ok (.iload 4, 2) := by decide +kernel
theorem dX7_talkAllDay_36 : decode cX7_talkAllDay 36 = .ok (.aload_n 0, 1) := by decide +kernel
theorem dX7_talkAllDay_37 : decode cX7_talkAllDay 37 = .ok (.getfield 40, 3) := by decide +kernel
theorem dX7_talkAllDay_40 : decode cX7_talkAllDay 40 = .ok (.if_icmp .ge 44, 3) := by decide +kernel
theorem dX7_talkAllDay_43 : decode cX7_talkAllDay 43 = .ok (.aload_n 0, 1) := by decide +kernel
theorem dX7_talkAllDay_44 : decode cX7_talkAllDay 44 = .ok (.getfield 27, 3) := by decide +kernel
theorem dX7_talkAllDay_47 : decode cX7_talkAllDay 47 = .ok (.iload 4, 2) := by decide +kernel
theorem dX7_talkAllDay_49 : decode cX7_talkAllDay 49 = .ok (.iaload, 1) := by decide +kernel
theorem dX7_talkAllDay_50 : decode cX7_talkAllDay 50 = .ok (.iload_n 3, 1) := by decide +kernel
theorem dX7_talkAllDay_51 : decode cX7_talkAllDay 51 = .ok (.if_icmp .ne 33, 3) := by decide +kernel
theorem dX7_talkAllDay_54 : decode cX7_talkAllDay 54 = .ok (.iload 4, 2) := by decide +kernel
theorem dX7_talkAllDay_56 : decode cX7_talkAllDay 56 = .ok (.iload_n 2, 1) := by decide +kernel
theorem dX7_talkAllDay_57 : decode cX7_talkAllDay 57 = .ok (.if_icmp .eq 21, 3) := by decide +kernel
theorem dX7_talkAllDay_60 : decode cX7_talkAllDay 60 = .ok (.aload_n 0, 1) := by decide +kernel
theorem dX7_talkAllDay_61 : decode cX7_talkAllDay 61 = .ok (.aload_n 0, 1) := by decide +kernel
theorem dX7_talkAllDay_62 : decode cX7_talkAllDay 62 = .ok (.getfield 21, 3) := by decide +kernel
theorem dX7_talkAllDay_65 : decode cX7_talkAllDay 65 = .ok (.iload 4, 2) := by decide +kernel
theorem dX7_talkAllDay_67 : decode cX7_talkAllDay 67 = .ok (.iaload, 1) := by decide +kernel
theorem dX7_talkAllDay_68 : decode cX7_talkAllDay 68 = .ok (.aload_n 0, 1) := by decide +kernel
theorem dX7_talkAllDay_69 : decode cX7_talkAllDay 69 = .ok (.getfield 24, 3) := by decide +kernel
theorem dX7_talkAllDay_72 : decode cX7_talkAllDay 72 = .ok (.iload 4, 2) := by decide +kernel
theorem dX7_talkAllDay_74 : decode cX7_talkAllDay 74 = .ok (.iaload, 1) := by decide +kernel
theorem dX7_talkAllDay_75 : decode cX7_talkAllDay 75 = .ok (.invokevirtual 57, 3) := by decide +kernel
theorem dX7_talkAllDay_78 : decode cX7_talkAllDay 78 = .ok (.iinc 4 1, 3) := by decide +kernel
theorem dX7_talkAllDay_81 : decode cX7_talkAllDay 81 = .ok (.goto (-47), 3) := by decide +kernel
theorem dX7_talkAllDay_84 : decode cX7_talkAllDay 84 = .ok (.aload_n 0, 1) := by decide +kernel
theorem dX7_talkAllDay_85 : decode cX7_talkAllDay 85 = .ok (.iload_n 3, 1) := by decide +kernel
theorem dX7_talkAllDay_86 : decode cX7_talkAllDay 86 = .ok (.invokevirtual 53, 3) := by decide +kernel
theorem dX7_talkAllDay_89 : decode cX7_talkAllDay 89 = .ok (.iload 4, 2) := by decide +kernel
theorem dX7_talkAllDay_91 : decode cX7_talkAllDay 91 = .ok (.ireturn, 1) := by decide +kernel
theorem dX7_exchange_0 : decode cX7_exchange 0 = .ok (.iconst 1, 1) := by decide +kernel
theorem dX7_exchange_1 : decode cX7_exchange 1 = .ok (.iload_n 1, 1) := by decide +kernel
theorem dX7_exchange_2 : decode cX7_exchange 2 = .ok (.ishl, 1) := by decide +kernel
theorem dX7_exchange_3 : decode cX7_exchange 3 = .ok (.iconst 1, 1) := by decide +kernel
theorem dX7_exchange_4 : decode cX7_exchange 4 = .ok (.iload_n 2, 1) := by decide +kernel
theorem dX7_exchange_5 : decode cX7_exchange 5 = .ok (.ishl, 1) := by decide +kernel
theorem dX7_exchange_6 : decode cX7_exchange 6 = .ok (.ior, 1) := by decide +kernel
theorem dX7_exchange_7 : decode cX7_exchange 7 = .ok (.istore_n 3, 1) := by decide +kernel
theorem dX7_exchange_8 : decode cX7_exchange 8 = .ok (.iconst 0, 1) := by decide +kernel
theorem dX7_exchange_9 : decode cX7_exchange 9 = .ok (.istore 4, 2) := by decide +kernel
theorem dX7_exchange_11 : decode cX7_exchange 11 = .ok (.iload 4, 2) := by decide +kernel
theorem dX7_exchange_13 : decode cX7_exchange 13 = .ok (.iconst 2, 1) := by decide +kernel
theorem dX7_exchange_14 : decode cX7_exchange 14 = .ok (.if_icmp .ge 32, 3) := by decide +kernel
theorem dX7_exchange_17 : decode cX7_exchange 17 = .ok (.aload_n 0, 1) := by decide +kernel
theorem dX7_exchange_18 : decode cX7_exchange 18 = .ok (.getfield 33, 3) := by decide +kernel
theorem dX7_exchange_21 : decode cX7_exchange 21 = .ok (.iload 4, 2) := by decide +kernel
theorem dX7_exchange_23 : decode cX7_exchange 23 = .ok (.iaload, 1) := by decide +kernel
theorem dX7_exchange_24 : decode cX7_exchange 24 = .ok (.iload_n 3, 1) := by decide +kernel
theorem dX7_exchange_25 : decode cX7_exchange 25 = .ok (.iand, 1) := by decide +kernel
theorem dX7_exchange_26 : decode cX7_exchange 26 = .ok (.ifCond .eq 14, 3) := by decide +kernel
theorem dX7_exchange_29 : decode cX7_exchange 29 = .ok (.aload_n 0, 1) := by decide +kernel
theorem dX7_exchange_30 : decode cX7_exchange 30 = .ok (.getfield 30, 3) := by decide +kernel
theorem dX7_exchange_33 : decode cX7_exchange 33 = .ok (.iload 4, 2) := by decide +kernel
theorem dX7_exchange_35 : decode cX7_exchange 35 = .ok (.dup2, 1) := by decide +kernel
theorem dX7_exchange_36 : decode cX7_exchange 36 = .ok (.iaload, 1) := by decide +kernel
theorem dX7_exchange_37 : decode cX7_exchange 37 = .ok (.iload_n 3, 1) := by decide +kernel
theorem dX7_exchange_38 : decode cX7_exchange 38 = .ok (.ior, 1) := by decide +kernel
theorem dX7_exchange_39 : decode cX7_exchange 39 = .ok (.iastore, 1) := by decide +kernel
theorem dX7_exchange_40 : decode cX7_exchange 40 = .ok (.iinc 4 1, 3) := by decide +kernel
theorem dX7_exchange_43 : decode cX7_exchange 43 = .ok (.goto (-32), 3) := by decide +kernel
theorem dX7_exchange_46 : decode cX7_exchange 46 = .ok (.return_, 1) := by decide +kernel
theorem dX7_noteJoined_0 : decode cX7_noteJoined 0 = .ok (.aload_n 0, 1) := by decide +kernel
theorem dX7_noteJoined_1 : decode cX7_noteJoined 1 = .ok (.getfield 43, 3) := by decide +kernel
theorem dX7_noteJoined_4 : decode cX7_noteJoined 4 = .ok (.bipush (-9), 2) := by decide +kernel
theorem dX7_noteJoined_6 : decode cX7_noteJoined 6 = .ok (.if_icmp .ne 24, 3) := by decide +kernel
theorem dX7_noteJoined_9 : decode cX7_noteJoined 9 = .ok (.aload_n 0, 1) := by decide +kernel
theorem dX7_noteJoined_10 : decode cX7_noteJoined 10 = .ok (.getfield 30, 3) := by decide +kernel
theorem dX7_noteJoined_13 : decode cX7_noteJoined 13 = .ok (.iconst 0, 1) := by decide +kernel
theorem dX7_noteJoined_14 : decode cX7_noteJoined 14 = .ok (.iaload, 1) := by decide +kernel
theorem dX7_noteJoined_15 : decode cX7_noteJoined 15 = .ok (.aload_n 0, 1) := by decide +kernel
theorem dX7_noteJoined_16 : decode cX7_noteJoined 16 = .ok (.getfield 30, 3) := by decide +kernel
theorem dX7_noteJoined_19 : decode cX7_noteJoined 19 = .ok (.iconst 1, 1) := by decide +kernel
theorem dX7_noteJoined_20 : decode cX7_noteJoined 20 = .ok (.iaload, 1) := by decide +kernel
theorem dX7_noteJoined_21 : decode cX7_noteJoined 21 = .ok (.iand, 1) := by decide +kernel
theorem dX7_noteJoined_22 : decode cX7_noteJoined 22 = .ok (.ifCond .eq 8, 3) := by decide +kernel
theorem dX7_noteJoined_25 : decode cX7_noteJoined 25 = .ok (.aload_n 0, 1) := by decide +kernel
theorem dX7_noteJoined_26 : decode cX7_noteJoined 26 = .ok (.iload_n 1, 1) := by decide +kernel
theorem dX7_noteJoined_27 : decode cX7_noteJoined 27 = .ok (.putfield 43, 3) := by decide +kernel
theorem dX7_noteJoined_30 : decode cX7_noteJoined 30 = .ok (.return_, 1) := by decide +kernel
theorem dX7_knownBy_0 : decode cX7_knownBy 0 = .ok (.aload_n 0, 1) := by decide +kernel
theorem dX7_knownBy_1 : decode cX7_knownBy 1 = .ok (.getfield 30, 3) := by decide +kernel
theorem dX7_knownBy_4 : decode cX7_knownBy 4 = .ok (.iconst 0, 1) := by decide +kernel
theorem dX7_knownBy_5 : decode cX7_knownBy 5 = .ok (.iaload, 1) := by decide +kernel
theorem dX7_knownBy_6 : decode cX7_knownBy 6 = .ok (.iload_n 1, 1) := by decide +kernel
theorem dX7_knownBy_7 : decode cX7_knownBy 7 = .ok (.ishr, 1) := by decide +kernel
theorem dX7_knownBy_8 : decode cX7_knownBy 8 = .ok (.iconst 1, 1) := by decide +kernel
theorem dX7_knownBy_9 : decode cX7_knownBy 9 = .ok (.iand, 1) := by decide +kernel
theorem dX7_knownBy_10 : decode cX7_knownBy 10 = .ok (.iconst 2, 1) := by decide +kernel
theorem dX7_knownBy_11 : decode cX7_knownBy 11 = .ok (.aload_n 0, 1) := by decide +kernel
theorem dX7_knownBy_12 : decode cX7_knownBy 12 = .ok (.getfield 30, 3) := by decide +kernel
theorem dX7_knownBy_15 : decode cX7_knownBy 15 = .ok (.iconst 1, 1) := by decide +kernel
theorem dX7_knownBy_16 : decode cX7_knownBy 16 = .ok (.iaload, 1) := by decide +kernel
theorem dX7_knownBy_17 : decode cX7_knownBy 17 = .ok (.iload_n 1, 1) := by decide +kernel
theorem dX7_knownBy_18 : decode cX7_knownBy 18 = .ok (.ishr, 1) := by decide +kernel
theorem dX7_knownBy_19 : decode cX7_knownBy 19 = .ok (.iconst 1, 1) := by decide +kernel
theorem dX7_knownBy_20 : decode cX7_knownBy 20 = .ok (.iand, 1) := by decide +kernel
theorem dX7_knownBy_21 : decode cX7_knownBy 21 = .ok (.imul, 1) := by decide +kernel
theorem dX7_knownBy_22 : decode cX7_knownBy 22 = .ok (.iadd, 1) := by decide +kernel
theorem dX7_knownBy_23 : decode cX7_knownBy 23 = .ok (.ireturn, 1) := by decide +kernel
theorem dX7_firstLeak_0 : decode cX7_firstLeak 0 = .ok (.aload_n 0, 1) := by decide +kernel
theorem dX7_firstLeak_1 : decode cX7_firstLeak 1 = .ok (.bipush (-9), 2) := by decide +kernel
theorem dX7_firstLeak_3 : decode cX7_firstLeak 3 = .ok (.invokevirtual 61, 3) := by decide +kernel
theorem dX7_firstLeak_6 : decode cX7_firstLeak 6 = .ok (.aload_n 0, 1) := by decide +kernel
theorem dX7_firstLeak_7 : decode cX7_firstLeak 7 = .ok (.getfield 43, 3) := by decide +kernel
theorem dX7_firstLeak_10 : decode cX7_firstLeak 10 = .ok (.bipush (-9), 2) := by decide +kernel
theorem dX7_firstLeak_12 : decode cX7_firstLeak 12 = .ok (.if_icmp .ne 6, 3) := by decide +kernel
theorem dX7_firstLeak_15 : decode cX7_firstLeak 15 = .ok (.bipush (-9), 2) := by decide +kernel
theorem dX7_firstLeak_17 : decode cX7_firstLeak 17 = .ok (.ireturn, 1) := by decide +kernel
theorem dX7_firstLeak_18 : decode cX7_firstLeak 18 = .ok (.iconst 0, 1) := by decide +kernel
theorem dX7_firstLeak_19 : decode cX7_firstLeak 19 = .ok (.istore_n 1, 1) := by decide +kernel
theorem dX7_firstLeak_20 : decode cX7_firstLeak 20 = .ok (.iload_n 1, 1) := by decide +kernel
theorem dX7_firstLeak_21 : decode cX7_firstLeak 21 = .ok (.aload_n 0, 1) := by decide +kernel
theorem dX7_firstLeak_22 : decode cX7_firstLeak 22 = .ok (.getfield 40, 3) := by decide +kernel
theorem dX7_firstLeak_25 : decode cX7_firstLeak 25 = .ok (.if_icmp .ge 25, 3) := by decide +kernel
theorem dX7_firstLeak_28 : decode cX7_firstLeak 28 = .ok (.aload_n 0, 1) := by decide +kernel
theorem dX7_firstLeak_29 : decode cX7_firstLeak 29 = .ok (.iload_n 1, 1) := by decide +kernel
theorem dX7_firstLeak_30 : decode cX7_firstLeak 30 = .ok (.invokevirtual 61, 3) := by decide +kernel
theorem dX7_firstLeak_33 : decode cX7_firstLeak 33 = .ok (.aload_n 0, 1) := by decide +kernel
theorem dX7_firstLeak_34 : decode cX7_firstLeak 34 = .ok (.getfield 43, 3) := by decide +kernel
theorem dX7_firstLeak_37 : decode cX7_firstLeak 37 = .ok (.bipush (-9), 2) := by decide +kernel
theorem dX7_firstLeak_39 : decode cX7_firstLeak 39 = .ok (.if_icmp .ne 5, 3) := by decide +kernel
theorem dX7_firstLeak_42 : decode cX7_firstLeak 42 = .ok (.iload_n 1, 1) := by decide +kernel
theorem dX7_firstLeak_43 : decode cX7_firstLeak 43 = .ok (.ireturn, 1) := by decide +kernel
theorem dX7_firstLeak_44 : decode cX7_firstLeak 44 = .ok (.iinc 1 1, 3) := by decide +kernel
theorem dX7_firstLeak_47 : decode cX7_firstLeak 47 = .ok (.goto (-27), 3) := by decide +kernel
theorem dX7_firstLeak_50 : decode cX7_firstLeak 50 = .ok (.bipush (-9), 2) := by decide +kernel
theorem dX7_firstLeak_52 : decode cX7_firstLeak 52 = .ok (.ireturn, 1) := by decide +kernel
theorem dX8_init_0 : decode cX8_init 0 = .ok (.aload_n 0, 1) := by decide +kernel
theorem dX8_init_1 : decode cX8_init 1 = .ok (.invokespecial 3, 3) := by decide +kernel
theorem dX8_init_4 : decode cX8_init 4 = .ok (.aload_n 0, 1) := by decide +kernel
theorem dX8_init_5 : decode cX8_init 5 = .ok (.bipush 8, 2) := by decide +kernel
theorem dX8_init_7 : decode cX8_init 7 = .ok (.newarray .int, 2) := by decide +kernel
theorem dX8_init_9 : decode cX8_init 9 = .ok (.putfield 9, 3) := by decide +kernel
theorem dX8_init_12 : decode cX8_init 12 = .ok (.aload_n 0, 1) := by decide +kernel
theorem dX8_init_13 : decode cX8_init 13 = .ok (.bipush 8, 2) := by decide +kernel
theorem dX8_init_15 : decode cX8_init 15 = .ok (.newarray .int, 2) := by decide +kernel
theorem dX8_init_17 : decode cX8_init 17 = .ok (.putfield 15, 3) := by decide +kernel
theorem dX8_init_20 : decode cX8_init 20 = .ok (.aload_n 0, 1) := by decide +kernel
theorem dX8_init_21 : decode cX8_init 21 = .ok (.bipush 8, 2) := by decide +kernel
theorem dX8_init_23 : decode cX8_init 23 = .ok (.newarray .int, 2) := by decide +kernel
theorem dX8_init_25 : decode cX8_init 25 = .ok (.putfield 18, 3) := by decide +kernel
theorem dX8_init_28 : decode cX8_init 28 = .ok (.aload_n 0, 1) := by decide +kernel
theorem dX8_init_29 : decode cX8_init 29 = .ok (.bipush 8, 2) := by decide +kernel
theorem dX8_init_31 : decode cX8_init 31 = .ok (.newarray .int, 2) := by decide +kernel
theorem dX8_init_33 : decode cX8_init 33 = .ok (.putfield 21, 3) := by decide +kernel
theorem dX8_init_36 : decode cX8_init 36 = .ok (.aload_n 0, 1) := by decide +kernel
theorem dX8_init_37 : decode cX8_init 37 = .ok (.bipush 8, 2) := by decide +kernel
theorem dX8_init_39 : decode cX8_init 39 = .ok (.newarray .int, 2) := by decide +kernel
theorem dX8_init_41 : decode cX8_init 41 = .ok (.putfield 24, 3) := by decide +kernel
theorem dX8_init_44 : decode cX8_init 44 = .ok (.aload_n 0, 1) := by decide +kernel
theorem dX8_init_45 : decode cX8_init 45 = .ok (.bipush 8, 2) := by decide +kernel
theorem dX8_init_47 : decode cX8_init 47 = .ok (.newarray .int, 2) := by decide +kernel
theorem dX8_init_49 : decode cX8_init 49 = .ok (.putfield 27, 3) := by decide +kernel
theorem dX8_init_52 : decode cX8_init 52 = .ok (.aload_n 0, 1) := by decide +kernel
theorem dX8_init_53 : decode cX8_init 53 = .ok (.bipush 12, 2) := by decide +kernel
theorem dX8_init_55 : decode cX8_init 55 = .ok (.newarray .int, 2) := by decide +kernel
theorem dX8_init_57 : decode cX8_init 57 = .ok (.putfield 30, 3) := by decide +kernel
theorem dX8_init_60 : decode cX8_init 60 = .ok (.aload_n 0, 1) := by decide +kernel
theorem dX8_init_61 : decode cX8_init 61 = .ok (.bipush 12, 2) := by decide +kernel
theorem dX8_init_63 : decode cX8_init 63 = .ok (.newarray .int, 2) := by decide +kernel
theorem dX8_init_65 : decode cX8_init 65 = .ok (.putfield 33, 3) := by decide +kernel
theorem dX8_init_68 : decode cX8_init 68 = .ok (.aload_n 0, 1) := by decide +kernel
theorem dX8_init_69 : decode cX8_init 69 = .ok (.iconst 0, 1) := by decide +kernel
theorem dX8_init_70 : decode cX8_init 70 = .ok (.putfield 36, 3) := by decide +kernel
theorem dX8_init_73 : decode cX8_init 73 = .ok (.return_, 1) := by decide +kernel
theorem dX8_isTold_0 : decode cX8_isTold 0 = .ok (.iconst 0, 1) := by decide +kernel
theorem dX8_isTold_1 : decode cX8_isTold 1 = .ok (.istore_n 2, 1) := by decide +kernel
theorem dX8_isTold_2 : decode cX8_isTold 2 = .ok (.iload_n 2, 1) := by decide +kernel
theorem dX8_isTold_3 : decode cX8_isTold 3 = .ok (.aload_n 0, 1) := by decide +kernel
theorem dX8_isTold_4 : decode cX8_isTold 4 = .ok (.getfield 36, 3) := by decide +kernel
theorem dX8_isTold_7 : decode cX8_isTold 7 = .ok (.if_icmp .ge 21, 3) := by decide +kernel
theorem dX8_isTold_10 : decode cX8_isTold 10 = .ok (.aload_n 0, 1) := by decide +kernel
theorem dX8_isTold_11 : decode cX8_isTold 11 = .ok (.getfield 9, 3) := by decide +kernel
theorem dX8_isTold_14 : decode cX8_isTold 14 = .ok (.iload_n 2, 1) := by decide +kernel
theorem dX8_isTold_15 : decode cX8_isTold 15 = .ok (.iaload, 1) := by decide +kernel
theorem dX8_isTold_16 : decode cX8_isTold 16 = .ok (.iload_n 1, 1) := by decide +kernel
theorem dX8_isTold_17 : decode cX8_isTold 17 = .ok (.if_icmp .ne 5, 3) := by decide +kernel
theorem dX8_isTold_20 : decode cX8_isTold 20 = .ok (.iconst 1, 1) := by decide +kernel
theorem dX8_isTold_21 : decode cX8_isTold 21 = .ok (.ireturn, 1) := by decide +kernel
theorem dX8_isTold_22 : decode cX8_isTold 22 = .ok (.iinc 2 1, 3) := by decide +kernel
theorem dX8_isTold_25 : decode cX8_isTold 25 = .ok (.goto (-23), 3) := by decide +kernel
theorem dX8_isTold_28 : decode cX8_isTold 28 = .ok (.iconst 0, 1) := by decide +kernel
theorem dX8_isTold_29 : decode cX8_isTold 29 = .ok (.ireturn, 1) := by decide +kernel
theorem dX8_tell_0 : decode cX8_tell 0 = .ok (.aload_n 0, 1) := by decide +kernel
theorem dX8_tell_1 : decode cX8_tell 1 = .ok (.getfield 9, 3) := by decide +kernel
theorem dX8_tell_4 : decode cX8_tell 4 = .ok (.aload_n 0, 1) := by decide +kernel
theorem dX8_tell_5 : decode cX8_tell 5 = .ok (.getfield 36, 3) := by decide +kernel
theorem dX8_tell_8 : decode cX8_tell 8 = .ok (.iload_n 1, 1) := by decide +kernel
theorem dX8_tell_9 : decode cX8_tell 9 = .ok (.iastore, 1) := by decide +kernel
theorem dX8_tell_10 : decode cX8_tell 10 = .ok (.aload_n 0, 1) := by decide +kernel
theorem dX8_tell_11 : decode cX8_tell 11 = .ok (.getfield 15, 3) := by decide +kernel
theorem dX8_tell_14 : decode cX8_tell 14 = .ok (.aload_n 0, 1) := by decide +kernel
theorem dX8_tell_15 : decode cX8_tell 15 = .ok (.getfield 36, 3) := by decide +kernel
theorem dX8_tell_18 : decode cX8_tell 18 = .ok (.iload_n 2, 1) := by decide +kernel
theorem dX8_tell_19 : decode cX8_tell 19 = .ok (.iastore, 1) := by decide +kernel
theorem dX8_tell_20 : decode cX8_tell 20 = .ok (.aload_n 0, 1) := by decide +kernel
theorem dX8_tell_21 : decode cX8_tell 21 = .ok (.getfield 36, 3) := by decide +kernel
theorem dX8_tell_24 : decode cX8_tell 24 = .ok (.istore_n 3, 1) := by decide +kernel
theorem dX8_tell_25 : decode cX8_tell 25 = .ok (.iload_n 3, 1) := by decide +kernel
theorem dX8_tell_26 : decode cX8_tell 26 = .ok (.ifCond .le 40, 3) := by decide +kernel
theorem dX8_tell_29 : decode cX8_tell 29 = .ok (.aload_n 0, 1) := by decide +kernel
theorem dX8_tell_30 : decode cX8_tell 30 = .ok (.getfield 15, 3) := by decide +kernel
theorem dX8_tell_33 : decode cX8_tell 33 = .ok (.aload_n 0, 1) := by decide +kernel
theorem dX8_tell_34 : decode cX8_tell 34 = .ok (.getfield 24, 3) := by decide +kernel
theorem dX8_tell_37 : decode cX8_tell 37 = .ok (.iload_n 3, 1) := by decide +kernel
theorem dX8_tell_38 : decode cX8_tell 38 = .ok (.iconst 1, 1) := by decide +kernel
theorem dX8_tell_39 : decode cX8_tell 39 = .ok (.isub, 1) := by decide +kernel
theorem dX8_tell_40 : decode cX8_tell 40 = .ok (.iaload, 1) := by decide +kernel
theorem dX8_tell_41 : decode cX8_tell 41 = .ok (.iaload, 1) := by decide +kernel
theorem dX8_tell_42 : decode cX8_tell 42 = .ok (.iload_n 2, 1) := by decide +kernel
theorem dX8_tell_43 : decode cX8_tell 43 = .ok (.if_icmp .ge 23, 3) := by decide +kernel
theorem dX8_tell_46 : decode cX8_tell 46 = .ok (.aload_n 0, 1) := by decide +kernel
theorem dX8_tell_47 : decode cX8_tell 47 = .ok (.getfield 24, 3) := by decide +kernel
theorem dX8_tell_50 : decode cX8_tell 50 = .ok (.iload_n 3, 1) := by decide +kernel
theorem dX8_tell_51 : decode cX8_tell 51 = .ok (.aload_n 0, 1) := by decide +kernel
theorem dX8_tell_52 : decode cX8_tell 52 = .ok (.getfield 24, 3) := by decide +kernel
theorem dX8_tell_55 : decode cX8_tell 55 = .ok (.iload_n 3, 1) := by decide +kernel
theorem dX8_tell_56 : decode cX8_tell 56 = .ok (.iconst 1, 1) := by decide +kernel
theorem dX8_tell_57 : decode cX8_tell 57 = .ok (.isub, 1) := by decide +kernel
theorem dX8_tell_58 : decode cX8_tell 58 = .ok (.iaload, 1) := by decide +kernel
theorem dX8_tell_59 : decode cX8_tell 59 = .ok (.iastore, 1) := by decide +kernel
theorem dX8_tell_60 : decode cX8_tell 60 = .ok (.iinc 3 (-1), 3) := by decide +kernel
theorem dX8_tell_63 : decode cX8_tell 63 = .ok (.goto (-38), 3) := by decide +kernel
theorem dX8_tell_66 : decode cX8_tell 66 = .ok (.aload_n 0, 1) := by decide +kernel
theorem dX8_tell_67 : decode cX8_tell 67 = .ok (.getfield 24, 3) := by decide +kernel
theorem dX8_tell_70 : decode cX8_tell 70 = .ok (.iload_n 3, 1) := by decide +kernel
theorem dX8_tell_71 : decode cX8_tell 71 = .ok (.aload_n 0, 1) := by decide +kernel
theorem dX8_tell_72 : decode cX8_tell 72 = .ok (.getfield 36, 3) := by decide +kernel
theorem dX8_tell_75 : decode cX8_tell 75 = .ok (.iastore, 1) := by decide +kernel
theorem dX8_tell_76 : decode cX8_tell 76 = .ok (.aload_n 0, 1) := by decide +kernel
theorem dX8_tell_77 : decode cX8_tell 77 = .ok (.dup, 1) := by decide +kernel
theorem dX8_tell_78 : decode cX8_tell 78 = .ok (.getfield 36, 3) := by decide +kernel
theorem dX8_tell_81 : decode cX8_tell 81 = .ok (.iconst 1, 1) := by decide +kernel
theorem dX8_tell_82 : decode cX8_tell 82 = .ok (.iadd, 1) := by decide +kernel
theorem dX8_tell_83 : decode cX8_tell 83 = .ok (.putfield 36, 3) := by decide +kernel
theorem dX8_tell_86 : decode cX8_tell 86 = .ok (.aload_n 0, 1) := by decide +kernel
theorem dX8_tell_87 : decode cX8_tell 87 = .ok (.getfield 36, 3) := by decide +kernel
theorem dX8_tell_90 : decode cX8_tell 90 = .ok (.ireturn, 1) := by decide +kernel
theorem dX8_forget_0 : decode cX8_forget 0 = .ok (.aload_n 0, 1) := by decide +kernel
theorem dX8_forget_1 : decode cX8_forget 1 = .ok (.iconst 0, 1) := by decide +kernel
theorem dX8_forget_2 : decode cX8_forget 2 = .ok (.putfield 36, 3) := by decide +kernel
theorem dX8_forget_5 : decode cX8_forget 5 = .ok (.return_, 1) := by decide +kernel
theorem dX8_greatestWorth_0 : decode cX8_greatestWorth 0 = .ok (.aload_n 0, 1) := by decide +kernel
theorem dX8_greatestWorth_1 : decode cX8_greatestWorth 1 = .ok (.iconst 0, 1) := by decide +kernel
theorem dX8_greatestWorth_2 : decode cX8_greatestWorth 2 = .ok (.sipush 4095, 3) := by decide +kernel
theorem dX8_greatestWorth_5 : decode cX8_greatestWorth 5 = .ok (.invokevirtual 40, 3) := by decide +kernel
theorem dX8_greatestWorth_8 : decode cX8_greatestWorth 8 = .ok (.ireturn, 1) := by decide +kernel
theorem dX8_choose_0 : decode cX8_choose 0 = .ok (.sipush 4095, 3) := by decide +kernel
theorem dX8_choose_3 : decode cX8_choose 3 = .ok (.istore_n 1, 1) := by decide +kernel
theorem dX8_choose_4 : decode cX8_choose 4 = .ok (.aload_n 0, 1) := by decide +kernel
theorem dX8_choose_5 : decode cX8_choose 5 = .ok (.invokevirtual 44, 3) := by decide +kernel
theorem dX8_choose_8 : decode cX8_choose 8 = .ok (.istore_n 2, 1) := by decide +kernel
theorem dX8_choose_9 : decode cX8_choose 9 = .ok (.iconst 0, 1) := by decide +kernel
theorem dX8_choose_10 : decode cX8_choose 10 = .ok (.istore_n 3, 1) := by decide +kernel
theorem dX8_choose_11 : decode cX8_choose 11 = .ok (.iload_n 3, 1) := by decide +kernel
theorem dX8_choose_12 : decode cX8_choose 12 = .ok (.aload_n 0, 1) := by decide +kernel
theorem dX8_choose_13 : decode cX8_choose 13 = .ok (.getfield 36, 3) := by decide +kernel
theorem dX8_choose_16 : decode cX8_choose 16 = .ok (.if_icmp .ge 51, 3) := by decide +kernel
theorem dX8_choose_19 : decode cX8_choose 19 = .ok (.aload_n 0, 1) := by decide +kernel
theorem dX8_choose_20 : decode cX8_choose 20 = .ok (.iload_n 3, 1) := by decide +kernel
theorem dX8_choose_21 : decode cX8_choose 21 = .ok (.iload_n 1, 1) := by decide +kernel
theorem dX8_choose_22 : decode cX8_choose 22 = .ok (.iload_n 2, 1) := by decide +kernel
theorem dX8_choose_23 : decode cX8_choose 23 = .ok (.invokevirtual 48, 3) := by decide +kernel
theorem dX8_choose_26 : decode cX8_choose 26 = .ok (.istore 4, 2) := by decide +kernel
theorem dX8_choose_28 : decode cX8_choose 28 = .ok (.aload_n 0, 1) := by decide +kernel
theorem dX8_choose_29 : decode cX8_choose 29 = .ok (.getfield 21, 3) := by decide +kernel
theorem dX8_choose_32 : decode cX8_choose 32 = .ok (.iload_n 3, 1) := by decide +kernel
theorem dX8_choose_33 : decode cX8_choose 33 = .ok (.iload 4, 2) := by decide +kernel
theorem dX8_choose_35 : decode cX8_choose 35 = .ok (.iastore, 1) := by decide +kernel
theorem dX8_choose_36 : decode cX8_choose 36 = .ok (.iload 4, 2) := by decide +kernel
theorem dX8_choose_38 : decode cX8_choose 38 = .ok (.bipush (-9), 2) := by decide +kernel
theorem dX8_choose_40 : decode cX8_choose 40 = .ok (.if_icmp .eq 21, 3) := by decide +kernel
theorem dX8_choose_43 : decode cX8_choose 43 = .ok (.iload_n 1, 1) := by decide +kernel
theorem dX8_choose_44 : decode cX8_choose 44 = .ok (.iconst 1, 1) := by decide +kernel
theorem dX8_choose_45 : decode cX8_choose 45 = .ok (.iload 4, 2) := by decide +kernel
theorem dX8_choose_47 : decode cX8_choose 47 = .ok (.ishl, 1) := by decide +kernel
theorem dX8_choose_48 : decode cX8_choose 48 = .ok (.iconst (-1), 1) := by decide +kernel
theorem dX8_choose_49 : decode cX8_choose 49 = .ok (.ixor, 1) := by decide +kernel
theorem dX8_choose_50 : decode cX8_choose 50 = .ok (.iand, 1) := by decide +kernel
theorem dX8_choose_51 : decode cX8_choose 51 = .ok (.istore_n 1, 1) := by decide +kernel
theorem dX8_choose_52 : decode cX8_choose 52 = .ok (.iload_n 2, 1) := by decide +kernel
theorem dX8_choose_53 : decode cX8_choose 53 = .ok (.aload_n 0, 1) := by decide +kernel
theorem dX8_choose_54 : decode cX8_choose 54 = .ok (.getfield 15, 3) := by decide +kernel
theorem dX8_choose_57 : decode cX8_choose 57 = .ok (.iload_n 3, 1) := by decide +kernel
theorem dX8_choose_58 : decode cX8_choose 58 = .ok (.iaload, 1) := by decide +kernel
theorem dX8_choose_59 : decode cX8_choose 59 = .ok (.isub, 1) := by decide +kernel
theorem dX8_choose_60 : decode cX8_choose 60 = .ok (.istore_n 2, 1) := by decide +kernel
theorem dX8_choose_61 : decode cX8_choose 61 = .ok (.iinc 3 1, 3) := by decide +kernel
theorem dX8_choose_64 : decode cX8_choose 64 = .ok (.goto (-53), 3) := by decide +kernel
theorem dX8_choose_67 : decode cX8_choose 67 = .ok (.return_, 1) := by decide +kernel
theorem dX8_leastSpot_0 : decode cX8_leastSpot 0 = .ok (.iconst 0, 1) := by decide +kernel
theorem dX8_leastSpot_1 : decode cX8_leastSpot 1 = .ok (.istore 4, 2) := by decide +kernel
theorem dX8_leastSpot_3 : decode cX8_leastSpot 3 = .ok (.iload 4, 2) := by decide +kernel
theorem dX8_leastSpot_5 : decode cX8_leastSpot 5 = .ok (.bipush 12, 2) := by decide +kernel
theorem dX8_leastSpot_7 : decode cX8_leastSpot 7 = .ok (.if_icmp .ge 56, 3) := by decide +kernel
theorem dX8_leastSpot_10 : decode cX8_leastSpot 10 = .ok (.iconst 1, 1) := by decide +kernel
theorem dX8_leastSpot_11 : decode cX8_leastSpot 11 = .ok (.iload 4, 2) := by decide +kernel
theorem dX8_leastSpot_13 : decode cX8_leastSpot 13 = .ok (.ishl, 1) := by decide +kernel
theorem dX8_leastSpot_14 : decode cX8_leastSpot 14 = .ok (.istore 5, 2) := by decide +kernel
theorem dX8_leastSpot_16 : decode cX8_leastSpot 16 = .ok (.aload_n 0, 1) := by decide +kernel
theorem dX8_leastSpot_17 : decode cX8_leastSpot 17 = .ok (.getfield 18, 3) := by decide +kernel
theorem dX8_leastSpot_20 : decode cX8_leastSpot 20 = .ok (.iload_n 1, 1) := by decide +kernel
theorem dX8_leastSpot_21 : decode cX8_leastSpot 21 = .ok (.iaload, 1) := by decide +kernel
theorem dX8_leastSpot_22 : decode cX8_leastSpot 22 = .ok (.iload_n 2, 1) := by decide +kernel
theorem dX8_leastSpot_23 : decode cX8_leastSpot 23 = .ok (.iand, 1) := by decide +kernel
theorem dX8_leastSpot_24 : decode cX8_leastSpot 24 = .ok (.iload 5, 2) := by decide +kernel
theorem dX8_leastSpot_26 : decode cX8_leastSpot 26 = .ok (.iand, 1) := by decide +kernel
theorem dX8_leastSpot_27 : decode cX8_leastSpot 27 = .ok (.ifCond .eq 30, 3) := by decide +kernel
theorem dX8_leastSpot_30 : decode cX8_leastSpot 30 = .ok (.aload_n 0, 1) := by decide +kernel
theorem dX8_leastSpot_31 : decode cX8_leastSpot 31 = .ok (.getfield 15, 3) := by decide +kernel
theorem dX8_leastSpot_34 : decode cX8_leastSpot 34 = .ok (.iload_n 1, 1) := by decide +kernel
theorem dX8_leastSpot_35 : decode cX8_leastSpot 35 = .ok (.iaload, 1) := by decide +kernel
theorem dX8_leastSpot_36 : decode cX8_leastSpot 36 = .ok (.aload_n 0, 1) := by decide +kernel
theorem dX8_leastSpot_37 : decode cX8_leastSpot 37 = .ok (.iload_n 1, 1) := by decide +kernel
theorem dX8_leastSpot_38 : decode cX8_leastSpot 38 = .ok (.iconst 1, 1) := by decide +kernel
theorem dX8_leastSpot_39 : decode cX8_leastSpot 39 = .ok (.iadd, 1) := by decide +kernel
theorem dX8_leastSpot_40 : decode cX8_leastSpot 40 = .ok (.iload_n 2, 1) := by decide +kernel
theorem dX8_leastSpot_41 : decode cX8_leastSpot 41 = .ok (.iload 5, 2) := by decide +kernel
theorem dX8_leastSpot_43 : decode cX8_leastSpot 43 = .ok (.iconst (-1), 1) := by decide +kernel
theorem dX8_leastSpot_44 : decode cX8_leastSpot 44 = .ok (.ixor, 1) := by decide +kernel
theorem dX8_leastSpot_45 : decode cX8_leastSpot 45 = .ok (.iand, 1) := by decide +kernel
theorem dX8_leastSpot_46 : decode cX8_leastSpot 46 = .ok (.invokevirtual 40, 3) := by decide +kernel
theorem dX8_leastSpot_49 : decode cX8_leastSpot 49 = .ok (.iadd, 1) := by decide +kernel
theorem dX8_leastSpot_50 : decode cX8_leastSpot 50 = .ok (.iload_n 3, 1) := by decide +kernel
theorem dX8_leastSpot_51 : decode cX8_leastSpot 51 = .ok (.if_icmp .ne 6, 3) := by decide +kernel
theorem dX8_leastSpot_54 : decode cX8_leastSpot 54 = .ok (.iload 4, 2) := by decide +kernel
theorem dX8_leastSpot_56 : decode cX8_leastSpot 56 = .ok (.ireturn, 1) := by decide +kernel
theorem dX8_leastSpot_57 : decode cX8_leastSpot 57 = .ok (.iinc 4 1, 3) := by decide +kernel
theorem dX8_leastSpot_60 : decode cX8_leastSpot 60 = .ok (.goto (-57), 3) := by decide +kernel
theorem dX8_leastSpot_63 : decode cX8_leastSpot 63 = .ok (.bipush (-9), 2) := by decide +kernel
theorem dX8_leastSpot_65 : decode cX8_leastSpot 65 = .ok (.ireturn, 1) := by decide +kernel
theorem dX8_worthFrom_0 : decode cX8_worthFrom 0 = .ok (.iconst 0, 1) := by decide +kernel
theorem dX8_worthFrom_1 : decode cX8_worthFrom 1 = .ok (.istore_n 3, 1) := by decide +kernel
theorem dX8_worthFrom_2 : decode cX8_worthFrom 2 = .ok (.iload_n 3, 1) := by decide +kernel
theorem dX8_worthFrom_3 : decode cX8_worthFrom 3 = .ok (.aload_n 0, 1) := by decide +kernel
theorem dX8_worthFrom_4 : decode cX8_worthFrom 4 = .ok (.getfield 36, 3) := by decide +kernel
theorem dX8_worthFrom_7 : decode cX8_worthFrom 7 = .ok (.if_icmp .ge 17, 3) := by decide +kernel
theorem dX8_worthFrom_10 : decode cX8_worthFrom 10 = .ok (.aload_n 0, 1) := by decide +kernel
theorem dX8_worthFrom_11 : decode cX8_worthFrom 11 = .ok (.getfield 27, 3) := by decide +kernel
theorem dX8_worthFrom_14 : decode cX8_worthFrom 14 = .ok (.iload_n 3, 1) := by decide +kernel
theorem dX8_worthFrom_15 : decode cX8_worthFrom 15 = .ok (.bipush (-9), 2) := by decide +kernel
theorem dX8_worthFrom_17 : decode cX8_worthFrom 17 = .ok (.iastore, 1) := by decide +kernel
theorem dX8_worthFrom_18 : decode cX8_worthFrom 18 = .ok (.iinc 3 1, 3) := by decide +kernel
theorem dX8_worthFrom_21 : decode cX8_worthFrom 21 = .ok (.goto (-19), 3) := by decide +kernel
theorem dX8_worthFrom_24 : decode cX8_worthFrom 24 = .ok (.iconst 0, 1) := by decide +kernel
theorem dX8_worthFrom_25 : decode cX8_worthFrom 25 = .ok (.istore_n 3, 1) := by decide +kernel
theorem dX8_worthFrom_26 : decode cX8_worthFrom 26 = .ok (.iload_n 3, 1) := by decide +kernel
theorem dX8_worthFrom_27 : decode cX8_worthFrom 27 = .ok (.bipush 12, 2) := by decide +kernel
theorem dX8_worthFrom_29 : decode cX8_worthFrom 29 = .ok (.if_icmp .ge 17, 3) := by decide +kernel
theorem dX8_worthFrom_32 : decode cX8_worthFrom 32 = .ok (.aload_n 0, 1) := by decide +kernel
theorem dX8_worthFrom_33 : decode cX8_worthFrom 33 = .ok (.getfield 30, 3) := by decide +kernel
theorem dX8_worthFrom_36 : decode cX8_worthFrom 36 = .ok (.iload_n 3, 1) := by decide +kernel
theorem dX8_worthFrom_37 : decode cX8_worthFrom 37 = .ok (.bipush (-9), 2) := by decide +kernel
theorem dX8_worthFrom_39 : decode cX8_worthFrom 39 = .ok (.iastore, 1) := by decide +kernel
theorem dX8_worthFrom_40 : decode cX8_worthFrom 40 = .ok (.iinc 3 1, 3) := by decide +kernel
theorem dX8_worthFrom_43 : decode cX8_worthFrom 43 = .ok (.goto (-17), 3) := by decide +kernel
theorem dX8_worthFrom_46 : decode cX8_worthFrom 46 = .ok (.iconst 0, 1) := by decide +kernel
theorem dX8_worthFrom_47 : decode cX8_worthFrom 47 = .ok (.istore_n 3, 1) := by decide +kernel
theorem dX8_worthFrom_48 : decode cX8_worthFrom 48 = .ok (.iconst 0, 1) := by decide +kernel
theorem dX8_worthFrom_49 : decode cX8_worthFrom 49 = .ok (.istore 4, 2) := by decide +kernel
theorem dX8_worthFrom_51 : decode cX8_worthFrom 51 = .ok (.iload 4, 2) := by decide +kernel
theorem dX8_worthFrom_53 : decode cX8_worthFrom 53 = .ok (.aload_n 0, 1) := by decide +kernel
theorem dX8_worthFrom_54 : decode cX8_worthFrom 54 = .ok (.getfield 36, 3) := by decide +kernel
theorem dX8_worthFrom_57 : decode cX8_worthFrom 57 = .ok (.if_icmp .ge 44, 3) := by decide +kernel
theorem dX8_worthFrom_60 : decode cX8_worthFrom 60 = .ok (.aload_n 0, 1) := by decide +kernel
theorem dX8_worthFrom_61 : decode cX8_worthFrom 61 = .ok (.getfield 24, 3) := by decide +kernel
theorem dX8_worthFrom_64 : decode cX8_worthFrom 64 = .ok (.iload 4, 2) := by decide +kernel
theorem dX8_worthFrom_66 : decode cX8_worthFrom 66 = .ok (.iaload, 1) := by decide +kernel
theorem dX8_worthFrom_67 : decode cX8_worthFrom 67 = .ok (.istore 5, 2) := by decide +kernel
theorem dX8_worthFrom_69 : decode cX8_worthFrom 69 = .ok (.iload 5, 2) := by decide +kernel
theorem dX8_worthFrom_71 : decode cX8_worthFrom 71 = .ok (.iload_n 1, 1) := by decide +kernel
theorem dX8_worthFrom_72 : decode cX8_worthFrom 72 = .ok (.if_icmp .lt 23, 3) := by decide +kernel
theorem dX8_worthFrom_75 : decode cX8_worthFrom 75 = .ok (.aload_n 0, 1) := by decide +kernel
theorem dX8_worthFrom_76 : decode cX8_worthFrom 76 = .ok (.iload 5, 2) := by decide +kernel
theorem dX8_worthFrom_78 : decode cX8_worthFrom 78 = .ok (.iload_n 2, 1) := by decide +kernel
theorem dX8_worthFrom_79 : decode cX8_worthFrom 79 = .ok (.invokevirtual 52, 3) := by decide +kernel
theorem dX8_worthFrom_82 : decode cX8_worthFrom 82 = .ok (.ifCond .eq 13, 3) := by decide +kernel
theorem dX8_worthFrom_85 : decode cX8_worthFrom 85 = .ok (.iload_n 3, 1) := by decide +kernel
theorem dX8_worthFrom_86 : decode cX8_worthFrom 86 = .ok (.aload_n 0, 1) := by decide +kernel
theorem dX8_worthFrom_87 : decode cX8_worthFrom 87 = .ok (.getfield 15, 3) := by decide +kernel
theorem dX8_worthFrom_90 : decode cX8_worthFrom 90 = .ok (.iload 5, 2) := by decide +kernel
theorem dX8_worthFrom_92 : decode cX8_worthFrom 92 = .ok (.iaload, 1) := by decide +kernel
theorem dX8_worthFrom_93 : decode cX8_worthFrom 93 = .ok (.iadd, 1) := by decide +kernel
theorem dX8_worthFrom_94 : decode cX8_worthFrom 94 = .ok (.istore_n 3, 1) := by decide +kernel
theorem dX8_worthFrom_95 : decode cX8_worthFrom 95 = .ok (.iinc 4 1, 3) := by decide +kernel
theorem dX8_worthFrom_98 : decode cX8_worthFrom 98 = .ok (.goto (-47), 3) := by decide +kernel
theorem dX8_worthFrom_101 : decode cX8_worthFrom 101 = .ok (.iload_n 3, 1) := by decide +kernel
theorem dX8_worthFrom_102 : decode cX8_worthFrom 102 = .ok (.ireturn, 1) := by decide +kernel
theorem dX8_findSeat_0 : decode cX8_findSeat 0 = .ok (.aload_n 0, 1) := by decide +kernel
theorem dX8_findSeat_1 : decode cX8_findSeat 1 = .ok (.getfield 18, 3) := by decide +kernel
theorem dX8_findSeat_4 : decode cX8_findSeat 4 = .ok (.iload_n 1, 1) := by decide +kernel
theorem dX8_findSeat_5 : decode cX8_findSeat 5 = .ok (.iaload, 1) := by decide +kernel
theorem dX8_findSeat_6 : decode cX8_findSeat 6 = .ok (.iload_n 2, 1) := by decide +kernel
theorem dX8_findSeat_7 : decode cX8_findSeat 7 = .ok (.iand, 1) := by decide +kernel
theorem dX8_findSeat_8 : decode cX8_findSeat 8 = .ok (.istore_n 3, 1) := by decide +kernel
theorem dX8_findSeat_9 : decode cX8_findSeat 9 = .ok (.iload_n 3, 1) := by decide +kernel
theorem dX8_findSeat_10 : decode cX8_findSeat 10 = .ok (.istore 4, 2) := by decide +kernel
theorem dX8_findSeat_12 : decode cX8_findSeat 12 = .ok (.aload_n 0, 1) := by decide +kernel
theorem dX8_findSeat_13 : decode cX8_findSeat 13 = .ok (.iload_n 3, 1) := by decide +kernel
theorem dX8_findSeat_14 : decode cX8_findSeat 14 = .ok (.iload_n 1, 1) := by decide +kernel
theorem dX8_findSeat_15 : decode cX8_findSeat 15 = .ok (.invokevirtual 56, 3) := by decide +kernel
theorem dX8_findSeat_18 : decode cX8_findSeat 18 = .ok (.iconst 0, 1) := by decide +kernel
theorem dX8_findSeat_19 : decode cX8_findSeat 19 = .ok (.istore 5, 2) := by decide +kernel
theorem dX8_findSeat_21 : decode cX8_findSeat 21 = .ok (.iload 5, 2) := by decide +kernel
theorem dX8_findSeat_23 : decode cX8_findSeat 23 = .ok (.bipush 12, 2) := by decide +kernel
theorem dX8_findSeat_25 : decode cX8_findSeat 25 = .ok (.if_icmp .ge 89, 3) := by decide +kernel
theorem dX8_findSeat_28 : decode cX8_findSeat 28 = .ok (.iload 4, 2) := by decide +kernel
theorem dX8_findSeat_30 : decode cX8_findSeat 30 = .ok (.ifCond .eq 84, 3) := by decide +kernel
theorem dX8_findSeat_33 : decode cX8_findSeat 33 = .ok (.iload 4, 2) := by decide +kernel
theorem dX8_findSeat_35 : decode cX8_findSeat 35 = .ok (.invokestatic 60, 3) := by decide +kernel
theorem dX8_findSeat_38 : decode cX8_findSeat 38 = .ok (.istore 6, 2) := by decide +kernel
theorem dX8_findSeat_40 : decode cX8_findSeat 40 = .ok (.iload 4, 2) := by decide +kernel
theorem dX8_findSeat_42 : decode cX8_findSeat 42 = .ok (.iload 4, 2) := by decide +kernel
theorem dX8_findSeat_44 : decode cX8_findSeat 44 = .ok (.iconst 1, 1) := by decide +kernel
theorem dX8_findSeat_45 : decode cX8_findSeat 45 = .ok (.isub, 1) := by decide +kernel
theorem dX8_findSeat_46 : decode cX8_findSeat 46 = .ok (.iand, 1) := by decide +kernel
theorem dX8_findSeat_47 : decode cX8_findSeat 47 = .ok (.istore 4, 2) := by decide +kernel
theorem dX8_findSeat_49 : decode cX8_findSeat 49 = .ok (.aload_n 0, 1) := by decide +kernel
theorem dX8_findSeat_50 : decode cX8_findSeat 50 = .ok (.getfield 30, 3) := by decide +kernel
theorem dX8_findSeat_53 : decode cX8_findSeat 53 = .ok (.iload 6, 2) := by decide +kernel
theorem dX8_findSeat_55 : decode cX8_findSeat 55 = .ok (.iaload, 1) := by decide +kernel
theorem dX8_findSeat_56 : decode cX8_findSeat 56 = .ok (.istore 7, 2) := by decide +kernel
theorem dX8_findSeat_58 : decode cX8_findSeat 58 = .ok (.iload 7, 2) := by decide +kernel
theorem dX8_findSeat_60 : decode cX8_findSeat 60 = .ok (.bipush (-9), 2) := by decide +kernel
theorem dX8_findSeat_62 : decode cX8_findSeat 62 = .ok (.if_icmp .ne 11, 3) := by decide +kernel
theorem dX8_findSeat_65 : decode cX8_findSeat 65 = .ok (.aload_n 0, 1) := by decide +kernel
theorem dX8_findSeat_66 : decode cX8_findSeat 66 = .ok (.iload 6, 2) := by decide +kernel
theorem dX8_findSeat_68 : decode cX8_findSeat 68 = .ok (.invokevirtual 66, 3) := by decide +kernel
theorem dX8_findSeat_71 : decode cX8_findSeat 71 = .ok (.iconst 1, 1) := by decide +kernel
theorem dX8_findSeat_72 : decode cX8_findSeat 72 = .ok (.ireturn, 1) := by decide +kernel
theorem dX8_findSeat_73 : decode cX8_findSeat 73 = .ok (.aload_n 0, 1) := by decide +kernel
theorem dX8_findSeat_74 : decode cX8_findSeat 74 = .ok (.getfield 18, 3) := by decide +kernel
theorem dX8_findSeat_77 : decode cX8_findSeat 77 = .ok (.iload 7, 2) := by decide +kernel
theorem dX8_findSeat_79 : decode cX8_findSeat 79 = .ok (.iaload, 1) := by decide +kernel
theorem dX8_findSeat_80 : decode cX8_findSeat 80 = .ok (.iload_n 2, 1) := by decide +kernel
theorem dX8_findSeat_81 : decode cX8_findSeat 81 = .ok (.iand, 1) := by decide +kernel
theorem dX8_findSeat_82 : decode cX8_findSeat 82 = .ok (.iload_n 3, 1) := by decide +kernel
theorem dX8_findSeat_83 : decode cX8_findSeat 83 = .ok (.iconst (-1), 1) := by decide +kernel
theorem dX8_findSeat_84 : decode cX8_findSeat 84 = .ok (.ixor, 1) := by decide +kernel
theorem dX8_findSeat_85 : decode cX8_findSeat 85 = .ok (.iand, 1) := by decide +kernel
theorem dX8_findSeat_86 : decode cX8_findSeat 86 = .ok (.istore 8, 2) := by decide +kernel
theorem dX8_findSeat_88 : decode cX8_findSeat 88 = .ok (.aload_n 0, 1) := by decide +kernel
theorem dX8_findSeat_89 : decode cX8_findSeat 89 = .ok (.iload 8, 2) := by decide +kernel
theorem dX8_findSeat_91 : decode cX8_findSeat 91 = .ok (.iload 7, 2) := by decide +kernel
theorem dX8_findSeat_93 : decode cX8_findSeat 93 = .ok (.invokevirtual 56, 3) := by decide +kernel
theorem dX8_findSeat_96 : decode cX8_findSeat 96 = .ok (.iload_n 3, 1) := by decide +kernel
theorem dX8_findSeat_97 : decode cX8_findSeat 97 = .ok (.iload 8, 2) := by decide +kernel
theorem dX8_findSeat_99 : decode cX8_findSeat 99 = .ok (.ior, 1) := by decide +kernel
theorem dX8_findSeat_100 : decode cX8_findSeat 100 = .ok (.istore_n 3, 1) := by decide +kernel
theorem dX8_findSeat_101 : decode cX8_findSeat 101 = .ok (.iload 4, 2) := by decide +kernel
theorem dX8_findSeat_103 : decode cX8_findSeat 103 = .ok (.iload 8, 2) := by decide +kernel
theorem dX8_findSeat_105 : decode cX8_findSeat 105 = .ok (.ior, 1) := by decide +kernel
theorem dX8_findSeat_106 : decode cX8_findSeat 106 = .ok (.istore 4, 2) := by decide +kernel
theorem dX8_findSeat_108 : decode cX8_findSeat 108 = .ok (.iinc 5 1, 3) := by decide +kernel
theorem dX8_findSeat_111 : decode cX8_findSeat 111 = .ok (.goto (-90), 3) := by decide +kernel
theorem dX8_findSeat_114 : decode cX8_findSeat 114 = .ok (.iconst 0, 1) := by decide +kernel
theorem dX8_findSeat_115 : decode cX8_findSeat 115 = .ok (.ireturn, 1) := by decide +kernel
theorem dX8_noteMover_0 : decode cX8_noteMover 0 = .ok (.iconst 0, 1) := by decide +kernel
theorem dX8_noteMover_1 : decode cX8_noteMover 1 = .ok (.istore_n 3, 1) := by decide +kernel
theorem dX8_noteMover_2 : decode cX8_noteMover 2 = .ok (.iload_n 3, 1) := by decide +kernel
theorem dX8_noteMover_3 : decode cX8_noteMover 3 = .ok (.bipush 12, 2) := by decide +kernel
theorem dX8_noteMover_5 : decode cX8_noteMover 5 = .ok (.if_icmp .ge 24, 3) := by decide +kernel
theorem dX8_noteMover_8 : decode cX8_noteMover 8 = .ok (.iload_n 1, 1) := by decide +kernel
theorem dX8_noteMover_9 : decode cX8_noteMover 9 = .ok (.iconst 1, 1) := by decide +kernel
theorem dX8_noteMover_10 : decode cX8_noteMover 10 = .ok (.iload_n 3, 1) := by decide +kernel
theorem dX8_noteMover_11 : decode cX8_noteMover 11 = .ok (.ishl, 1) := by decide +kernel
theorem dX8_noteMover_12 : decode cX8_noteMover 12 = .ok (.iand, 1) := by decide +kernel
theorem dX8_noteMover_13 : decode cX8_noteMover 13 = .ok (.ifCond .eq 10, 3) := by decide +kernel
theorem dX8_noteMover_16 : decode cX8_noteMover 16 = .ok (.aload_n 0, 1) := by decide +kernel
theorem dX8_noteMover_17 : decode cX8_noteMover 17 = .ok (.getfield 33, 3) := by decide +kernel
theorem dX8_noteMover_20 : decode cX8_noteMover 20 = .ok (.iload_n 3, 1) := by decide +kernel
theorem dX8_noteMover_21 : decode cX8_noteMover 21 = .ok (.iload_n 2, 1) := by decide +kernel
theorem dX8_noteMover_22 : decode cX8_noteMover 22 = .ok (.iastore, 1) := by decide +kernel
theorem dX8_noteMover_23 : decode cX8_noteMover 23 = .ok (.iinc 3 1, 3) := by decide +kernel
theorem dX8_noteMover_26 : decode cX8_noteMover 26 = .ok (.goto (-24), 3) := by decide +kernel
theorem dX8_noteMover_29 : decode cX8_noteMover 29 = .ok (.return_, 1) := by decide +kernel
theorem dX8_moveAlong_0 : decode cX8_moveAlong 0 = .ok (.iload_n 1, 1) := by decide +kernel
theorem dX8_moveAlong_1 : decode cX8_moveAlong 1 = .ok (.istore_n 2, 1) := by decide +kernel
theorem dX8_moveAlong_2 : decode cX8_moveAlong 2 = .ok (.iconst 0, 1) := by decide +kernel
theorem dX8_moveAlong_3 : decode cX8_moveAlong 3 = .ok (.istore_n 3, 1) := by decide +kernel
theorem dX8_moveAlong_4 : decode cX8_moveAlong 4 = .ok (.iload_n 3, 1) := by decide +kernel
theorem dX8_moveAlong_5 : decode cX8_moveAlong 5 = .ok (.bipush 12, 2) := by decide +kernel
theorem dX8_moveAlong_7 : decode cX8_moveAlong 7 = .ok (.if_icmp .ge 51, 3) := by decide +kernel
theorem dX8_moveAlong_10 : decode cX8_moveAlong 10 = .ok (.iload_n 2, 1) := by decide +kernel
theorem dX8_moveAlong_11 : decode cX8_moveAlong 11 = .ok (.bipush (-9), 2) := by decide +kernel
theorem dX8_moveAlong_13 : decode cX8_moveAlong 13 = .ok (.if_icmp .eq 45, 3) := by decide +kernel
theorem dX8_moveAlong_16 : decode cX8_moveAlong 16 = .ok (.aload_n 0, 1) := by decide +kernel
theorem dX8_moveAlong_17 : decode cX8_moveAlong 17 = .ok (.getfield 33, 3) := by decide +kernel
theorem dX8_moveAlong_20 : decode cX8_moveAlong 20 = .ok (.iload_n 2, 1) := by decide +kernel
theorem dX8_moveAlong_21 : decode cX8_moveAlong 21 = .ok (.iaload, 1) := by decide +kernel
theorem dX8_moveAlong_22 : decode cX8_moveAlong 22 = .ok (.istore 4, 2) := by decide +kernel
theorem dX8_moveAlong_24 : decode cX8_moveAlong 24 = .ok (.aload_n 0, 1) := by decide +kernel
theorem dX8_moveAlong_25 : decode cX8_moveAlong 25 = .ok (.getfield 27, 3) := by decide +kernel
theorem dX8_moveAlong_28 : decode cX8_moveAlong 28 = .ok (.iload 4, 2) := by decide +kernel
theorem dX8_moveAlong_30 : decode cX8_moveAlong 30 = .ok (.iaload, 1) := by decide +kernel
theorem dX8_moveAlong_31 : decode cX8_moveAlong 31 = .ok (.istore 5, 2) := by decide +kernel
theorem dX8_moveAlong_33 : decode cX8_moveAlong 33 = .ok (.aload_n 0, 1) := by decide +kernel
theorem dX8_moveAlong_34 : decode cX8_moveAlong 34 = .ok (.getfield 27, 3) := by decide +kernel
theorem dX8_moveAlong_37 : decode cX8_moveAlong 37 = .ok (.iload 4, 2) := by decide +kernel
theorem dX8_moveAlong_39 : decode cX8_moveAlong 39 = .ok (.iload_n 2, 1) := by decide +kernel
theorem dX8_moveAlong_40 : decode cX8_moveAlong 40 = .ok (.iastore, 1) := by decide +kernel
theorem dX8_moveAlong_41 : decode cX8_moveAlong 41 = .ok (.aload_n 0, 1) := by decide +kernel
theorem dX8_moveAlong_42 : decode cX8_moveAlong 42 = .ok (.getfield 30, 3) := by decide +kernel
theorem dX8_moveAlong_45 : decode cX8_moveAlong 45 = .ok (.iload_n 2, 1) := by decide +kernel
theorem dX8_moveAlong_46 : decode cX8_moveAlong 46 = .ok (.iload 4, 2) := by decide +kernel
theorem dX8_moveAlong_48 : decode cX8_moveAlong 48 = .ok (.iastore, 1) := by decide +kernel
theorem dX8_moveAlong_49 : decode cX8_moveAlong 49 = .ok (.iload 5, 2) := by decide +kernel
theorem dX8_moveAlong_51 : decode cX8_moveAlong 51 = .ok (.istore_n 2, 1) := by decide +kernel
theorem dX8_moveAlong_52 : decode cX8_moveAlong 52 = .ok (.iinc 3 1, 3) := by decide +kernel
theorem dX8_moveAlong_55 : decode cX8_moveAlong 55 = .ok (.goto (-51), 3) := by decide +kernel
theorem dX8_moveAlong_58 : decode cX8_moveAlong 58 = .ok (.return_, 1) := by decide +kernel
theorem dX9_init_0 : decode cX9_init 0 = .ok (.aload_n 0, 1) := by decide +kernel
theorem dX9_init_1 : decode cX9_init 1 = .ok (.invokespecial 3, 3) := by decide +kernel
theorem dX9_init_4 : decode cX9_init 4 = .ok (.aload_n 0, 1) := by decide +kernel
theorem dX9_init_5 : decode cX9_init 5 = .ok (.iconst 3, 1) := by decide +kernel
theorem dX9_init_6 : decode cX9_init 6 = .ok (.newarray .int, 2) := by decide +kernel
theorem dX9_init_8 : decode cX9_init 8 = .ok (.putfield 9, 3) := by decide +kernel
theorem dX9_init_11 : decode cX9_init 11 = .ok (.aload_n 0, 1) := by decide +kernel
theorem dX9_init_12 : decode cX9_init 12 = .ok (.bipush 8, 2) := by decide +kernel
theorem dX9_init_14 : decode cX9_init 14 = .ok (.newarray .int, 2) := by decide +kernel
theorem dX9_init_16 : decode cX9_init 16 = .ok (.putfield 15, 3) := by decide +kernel
theorem dX9_init_19 : decode cX9_init 19 = .ok (.aload_n 0, 1) := by decide +kernel
theorem dX9_init_20 : decode cX9_init 20 = .ok (.bipush 8, 2) := by decide +kernel
theorem dX9_init_22 : decode cX9_init 22 = .ok (.newarray .int, 2) := by decide +kernel
theorem dX9_init_24 : decode cX9_init 24 = .ok (.putfield 18, 3) := by decide +kernel
theorem dX9_init_27 : decode cX9_init 27 = .ok (.aload_n 0, 1) := by decide +kernel
theorem dX9_init_28 : decode cX9_init 28 = .ok (.bipush 8, 2) := by decide +kernel
theorem dX9_init_30 : decode cX9_init 30 = .ok (.newarray .int, 2) := by decide +kernel
theorem dX9_init_32 : decode cX9_init 32 = .ok (.putfield 21, 3) := by decide +kernel
theorem dX9_init_35 : decode cX9_init 35 = .ok (.aload_n 0, 1) := by decide +kernel
theorem dX9_init_36 : decode cX9_init 36 = .ok (.iconst 3, 1) := by decide +kernel
theorem dX9_init_37 : decode cX9_init 37 = .ok (.newarray .int, 2) := by decide +kernel
theorem dX9_init_39 : decode cX9_init 39 = .ok (.putfield 24, 3) := by decide +kernel
theorem dX9_init_42 : decode cX9_init 42 = .ok (.aload_n 0, 1) := by decide +kernel
theorem dX9_init_43 : decode cX9_init 43 = .ok (.iconst 0, 1) := by decide +kernel
theorem dX9_init_44 : decode cX9_init 44 = .ok (.putfield 27, 3) := by decide +kernel
theorem dX9_init_47 : decode cX9_init 47 = .ok (.aload_n 0, 1) := by decide +kernel
theorem dX9_init_48 : decode cX9_init 48 = .ok (.iconst 0, 1) := by decide +kernel
theorem dX9_init_49 : decode cX9_init 49 = .ok (.putfield 31, 3) := by decide +kernel
theorem dX9_init_52 : decode cX9_init 52 = .ok (.aload_n 0, 1) := by decide +kernel
theorem dX9_init_53 : decode cX9_init 53 = .ok (.iconst 1, 1) := by decide +kernel
theorem dX9_init_54 : decode cX9_init 54 = .ok (.putfield 34, 3) := by decide +kernel
theorem dX9_init_57 : decode cX9_init 57 = .ok (.iconst 0, 1) := by decide +kernel
theorem dX9_init_58 : decode cX9_init 58 = .ok (.istore_n 1, 1) := by decide +kernel
theorem dX9_init_59 : decode cX9_init 59 = .ok (.iload_n 1, 1) := by decide +kernel
theorem dX9_init_60 : decode cX9_init 60 = .ok (.iconst 3, 1) := by decide +kernel
theorem dX9_init_61 : decode cX9_init 61 = .ok (.if_icmp .ge 16, 3) := by decide +kernel
theorem dX9_init_64 : decode cX9_init 64 = .ok (.aload_n 0, 1) := by decide +kernel
theorem dX9_init_65 : decode cX9_init 65 = .ok (.getfield 9, 3) := by decide +kernel
theorem dX9_init_68 : decode cX9_init 68 = .ok (.iload_n 1, 1) := by decide +kernel
theorem dX9_init_69 : decode cX9_init 69 = .ok (.iconst 1, 1) := by decide +kernel
theorem dX9_init_70 : decode cX9_init 70 = .ok (.iastore, 1) := by decide +kernel
theorem dX9_init_71 : decode cX9_init 71 = .ok (.iinc 1 1, 3) := by decide +kernel
theorem dX9_init_74 : decode cX9_init 74 = .ok (.goto (-15), 3) := by decide +kernel
theorem dX9_init_77 : decode cX9_init 77 = .ok (.return_, 1) := by decide +kernel
theorem dX9_changeSkill_0 : decode cX9_changeSkill 0 = .ok (.aload_n 0, 1) := by decide +kernel
theorem dX9_changeSkill_1 : decode cX9_changeSkill 1 = .ok (.getfield 9, 3) := by decide +kernel
theorem dX9_changeSkill_4 : decode cX9_changeSkill 4 = .ok (.iload_n 1, 1) := by decide +kernel
theorem dX9_changeSkill_5 : decode cX9_changeSkill 5 = .ok (.iaload, 1) := by decide +kernel
theorem dX9_changeSkill_6 : decode cX9_changeSkill 6 = .ok (.istore_n 3, 1) := by decide +kernel
theorem dX9_changeSkill_7 : decode cX9_changeSkill 7 = .ok (.aload_n 0, 1) := by decide +kernel
theorem dX9_changeSkill_8 : decode cX9_changeSkill 8 = .ok (.getfield 9, 3) := by decide +kernel
theorem dX9_changeSkill_11 : decode cX9_changeSkill 11 = .ok (.iload_n 1, 1) := by decide +kernel
theorem dX9_changeSkill_12 : decode cX9_changeSkill 12 = .ok (.iload_n 2, 1) := by decide +kernel
theorem dX9_changeSkill_13 : decode cX9_changeSkill 13 = .ok (.iastore, 1) := by decide +kernel
theorem dX9_changeSkill_14 : decode cX9_changeSkill 14 = .ok (.aload_n 0, 1) := by decide +kernel
theorem dX9_changeSkill_15 : decode cX9_changeSkill 15 = .ok (.iconst 0, 1) := by decide +kernel
theorem dX9_changeSkill_16 : decode cX9_changeSkill 16 = .ok (.putfield 34, 3) := by decide +kernel
theorem dX9_changeSkill_19 : decode cX9_changeSkill 19 = .ok (.iload_n 3, 1) := by decide +kernel
theorem dX9_changeSkill_20 : decode cX9_changeSkill 20 = .ok (.ireturn, 1) := by decide +kernel
theorem dX9_addJob_0 : decode cX9_addJob 0 = .ok (.aload_n 0, 1) := by decide +kernel
theorem dX9_addJob_1 : decode cX9_addJob 1 = .ok (.getfield 15, 3) := by decide +kernel
theorem dX9_addJob_4 : decode cX9_addJob 4 = .ok (.aload_n 0, 1) := by decide +kernel
theorem dX9_addJob_5 : decode cX9_addJob 5 = .ok (.getfield 27, 3) := by decide +kernel
theorem dX9_addJob_8 : decode cX9_addJob 8 = .ok (.iload_n 1, 1) := by decide +kernel
theorem dX9_addJob_9 : decode cX9_addJob 9 = .ok (.iastore, 1) := by decide +kernel
theorem dX9_addJob_10 : decode cX9_addJob 10 = .ok (.aload_n 0, 1) := by decide +kernel
theorem dX9_addJob_11 : decode cX9_addJob 11 = .ok (.dup, 1) := by decide +kernel
theorem dX9_addJob_12 : decode cX9_addJob 12 = .ok (.getfield 27, 3) := by decide +kernel
theorem dX9_addJob_15 : decode cX9_addJob 15 = .ok (.iconst 1, 1) := by decide +kernel
theorem dX9_addJob_16 : decode cX9_addJob 16 = .ok (.iadd, 1) := by decide +kernel
theorem dX9_addJob_17 : decode cX9_addJob 17 = .ok (.putfield 27, 3) := by decide +kernel
theorem dX9_addJob_20 : decode cX9_addJob 20 = .ok (.aload_n 0, 1) := by decide +kernel
theorem dX9_addJob_21 : decode cX9_addJob 21 = .ok (.iconst 0, 1) := by decide +kernel
theorem dX9_addJob_22 : decode cX9_addJob 22 = .ok (.putfield 34, 3) := by decide +kernel
theorem dX9_addJob_25 : decode cX9_addJob 25 = .ok (.aload_n 0, 1) := by decide +kernel
theorem dX9_addJob_26 : decode cX9_addJob 26 = .ok (.getfield 27, 3) := by decide +kernel
theorem dX9_addJob_29 : decode cX9_addJob 29 = .ok (.iconst 1, 1) := by decide +kernel
theorem dX9_addJob_30 : decode cX9_addJob 30 = .ok (.isub, 1) := by decide +kernel
theorem dX9_addJob_31 : decode cX9_addJob 31 = .ok (.ireturn, 1) := by decide +kernel
theorem dX9_share_0 : decode cX9_share 0 = .ok (.aload_n 0, 1) := by decide +kernel
theorem dX9_share_1 : decode cX9_share 1 = .ok (.getfield 34, 3) := by decide +kernel
theorem dX9_share_4 : decode cX9_share 4 = .ok (.ifCond .eq 4, 3) := by decide +kernel
theorem dX9_share_7 : decode cX9_share 7 = .ok (.return_, 1) := by decide +kernel
theorem dX9_share_8 : decode cX9_share 8 = .ok (.iconst 0, 1) := by decide +kernel
theorem dX9_share_9 : decode cX9_share 9 = .ok (.istore_n 1, 1) := by decide +kernel
theorem dX9_share_10 : decode cX9_share 10 = .ok (.iload_n 1, 1) := by decide +kernel
theorem dX9_share_11 : decode cX9_share 11 = .ok (.iconst 3, 1) := by decide +kernel
theorem dX9_share_12 : decode cX9_share 12 = .ok (.if_icmp .ge 16, 3) := by decide +kernel
theorem dX9_share_15 : decode cX9_share 15 = .ok (.aload_n 0, 1) := by decide +kernel
theorem dX9_share_16 : decode cX9_share 16 = .ok (.getfield 24, 3) := by decide +kernel
theorem dX9_share_19 : decode cX9_share 19 = .ok (.iload_n 1, 1) := by decide +kernel
theorem dX9_share_20 : decode cX9_share 20 = .ok (.iconst 0, 1) := by decide +kernel
theorem dX9_share_21 : decode cX9_share 21 = .ok (.iastore, 1) := by decide +kernel
theorem dX9_share_22 : decode cX9_share 22 = .ok (.iinc 1 1, 3) := by decide +kernel
theorem dX9_share_25 : decode cX9_share 25 = .ok (.goto (-15), 3) := by decide +kernel
theorem dX9_share_28 : decode cX9_share 28 = .ok (.aload_n 0, 1) := by decide +kernel
theorem dX9_share_29 : decode cX9_share 29 = .ok (.ldc 40, 2) := by decide +kernel
theorem dX9_share_31 : decode cX9_share 31 = .ok (.putfield 31, 3) := by decide +kernel
theorem dX9_share_34 : decode cX9_share 34 = .ok (.aload_n 0, 1) := by decide +kernel
theorem dX9_share_35 : decode cX9_share 35 = .ok (.iconst 0, 1) := by decide +kernel
theorem dX9_share_36 : decode cX9_share 36 = .ok (.iconst 0, 1) := by decide +kernel
theorem dX9_share_37 : decode cX9_share 37 = .ok (.invokestatic 41, 3) := by decide +kernel
theorem dX9_share_40 : decode cX9_share 40 = .ok (.aload_n 0, 1) := by decide +kernel
theorem dX9_share_41 : decode cX9_share 41 = .ok (.iconst 1, 1) := by decide +kernel
theorem dX9_share_42 : decode cX9_share 42 = .ok (.putfield 34, 3) := by decide +kernel
theorem dX9_share_45 : decode cX9_share 45 = .ok (.return_, 1) := by decide +kernel
theorem dX9_shareFrom_0 : decode cX9_shareFrom 0 = .ok (.iload_n 2, 1) := by decide +kernel
theorem dX9_shareFrom_1 : decode cX9_shareFrom 1 = .ok (.aload_n 0, 1) := by decide +kernel
theorem dX9_shareFrom_2 : decode cX9_shareFrom 2 = .ok (.getfield 31, 3) := by decide +kernel
theorem dX9_shareFrom_5 : decode cX9_shareFrom 5 = .ok (.if_icmp .lt 4, 3) := by decide +kernel
theorem dX9_shareFrom_8 : decode cX9_shareFrom 8 = .ok (.return_, 1) := by decide +kernel
theorem dX9_shareFrom_9 : decode cX9_shareFrom 9 = .ok (.iload_n 1, 1) := by decide +kernel
theorem dX9_shareFrom_10 : decode cX9_shareFrom 10 = .ok (.aload_n 0, 1) := by decide +kernel
theorem dX9_shareFrom_11 : decode cX9_shareFrom 11 = .ok (.getfield 27, 3) := by decide +kernel
theorem dX9_shareFrom_14 : decode cX9_shareFrom 14 = .ok (.if_icmp .ge 9, 3) := by decide +kernel
theorem dX9_shareFrom_17 : decode cX9_shareFrom 17 = .ok (.iload_n 1, 1) := by decide +kernel
theorem dX9_shareFrom_18 : decode cX9_shareFrom 18 = .ok (.bipush 8, 2) := by decide +kernel
theorem dX9_shareFrom_20 : decode cX9_shareFrom 20 = .ok (.if_icmp .lt 9, 3) := by decide +kernel
theorem dX9_shareFrom_23 : decode cX9_shareFrom 23 = .ok (.aload_n 0, 1) := by decide +kernel
theorem dX9_shareFrom_24 : decode cX9_shareFrom 24 = .ok (.iload_n 2, 1) := by decide +kernel
theorem dX9_shareFrom_25 : decode cX9_shareFrom 25 = .ok (.invokevirtual 45, 3) := by decide +kernel
theorem dX9_shareFrom_28 : decode cX9_shareFrom 28 = .ok (.return_, 1) := by decide +kernel
theorem dX9_shareFrom_29 : decode cX9_shareFrom 29 = .ok (.iconst 0, 1) := by decide +kernel
theorem dX9_shareFrom_30 : decode cX9_shareFrom 30 = .ok (.istore_n 3, 1) := by decide +kernel
theorem dX9_shareFrom_31 : decode cX9_shareFrom 31 = .ok (.iload_n 3, 1) := by decide +kernel
theorem dX9_shareFrom_32 : decode cX9_shareFrom 32 = .ok (.iconst 3, 1) := by decide +kernel
theorem dX9_shareFrom_33 : decode cX9_shareFrom 33 = .ok (.if_icmp .ge 63, 3) := by decide +kernel
theorem dX9_shareFrom_36 : decode cX9_shareFrom 36 = .ok (.aload_n 0, 1) := by decide +kernel
theorem dX9_shareFrom_37 : decode cX9_shareFrom 37 = .ok (.iload_n 1, 1) := by decide +kernel
theorem dX9_shareFrom_38 : decode cX9_shareFrom 38 = .ok (.iload_n 3, 1) := by decide +kernel
theorem dX9_shareFrom_39 : decode cX9_shareFrom 39 = .ok (.invokevirtual 49, 3) := by decide +kernel
theorem dX9_shareFrom_42 : decode cX9_shareFrom 42 = .ok (.istore 4, 2) := by decide +kernel
theorem dX9_shareFrom_44 : decode cX9_shareFrom 44 = .ok (.aload_n 0, 1) := by decide +kernel
theorem dX9_shareFrom_45 : decode cX9_shareFrom 45 = .ok (.getfield 18, 3) := by decide +kernel
theorem dX9_shareFrom_48 : decode cX9_shareFrom 48 = .ok (.iload_n 1, 1) := by decide +kernel
theorem dX9_shareFrom_49 : decode cX9_shareFrom 49 = .ok (.iload_n 3, 1) := by decide +kernel
theorem dX9_shareFrom_50 : decode cX9_shareFrom 50 = .ok (.iastore, 1) := by decide +kernel
theorem dX9_shareFrom_51 : decode cX9_shareFrom 51 = .ok (.aload_n 0, 1) := by decide +kernel
theorem dX9_shareFrom_52 : decode cX9_shareFrom 52 = .ok (.getfield 24, 3) := by decide +kernel
theorem dX9_shareFrom_55 : decode cX9_shareFrom 55 = .ok (.iload_n 3, 1) := by decide +kernel
theorem dX9_shareFrom_56 : decode cX9_shareFrom 56 = .ok (.dup2, 1) := by decide +kernel
theorem dX9_shareFrom_57 : decode cX9_shareFrom 57 = .ok (.iaload, 1) := by decide +kernel
theorem dX9_shareFrom_58 : decode cX9_shareFrom 58 = .ok (.iload 4, 2) := by decide +kernel
theorem dX9_shareFrom_60 : decode cX9_shareFrom 60 = .ok (.iadd, 1) := by decide +kernel
theorem dX9_shareFrom_61 : decode cX9_shareFrom 61 = .ok (.iastore, 1) := by decide +kernel
theorem dX9_shareFrom_62 : decode cX9_shareFrom 62 = .ok (.aload_n 0, 1) := by decide +kernel
theorem dX9_shareFrom_63 : decode cX9_shareFrom 63 = .ok (.iload_n 1, 1) := by decide +kernel
theorem dX9_shareFrom_64 : decode cX9_shareFrom 64 = .ok (.iconst 1, 1) := by decide +kernel
theorem dX9_shareFrom_65 : decode cX9_shareFrom 65 = .ok (.iadd, 1) := by decide +kernel
theorem dX9_shareFrom_66 : decode cX9_shareFrom 66 = .ok (.iload_n 2, 1) := by decide +kernel
theorem dX9_shareFrom_67 : decode cX9_shareFrom 67 = .ok (.aload_n 0, 1) := by decide +kernel
theorem dX9_shareFrom_68 : decode cX9_shareFrom 68 = .ok (.getfield 24, 3) := by decide +kernel
theorem dX9_shareFrom_71 : decode cX9_shareFrom 71 = .ok (.iload_n 3, 1) := by decide +kernel
theorem dX9_shareFrom_72 : decode cX9_shareFrom 72 = .ok (.iaload, 1) := by decide +kernel
theorem dX9_shareFrom_73 : decode cX9_shareFrom 73 = .ok (.invokestatic 53, 3) := by decide +kernel
theorem dX9_shareFrom_76 : decode cX9_shareFrom 76 = .ok (.invokestatic 41, 3) := by decide +kernel
theorem dX9_shareFrom_79 : decode cX9_shareFrom 79 = .ok (.aload_n 0, 1) := by decide +kernel
theorem dX9_shareFrom_80 : decode cX9_shareFrom 80 = .ok (.getfield 24, 3) := by decide +kernel
theorem dX9_shareFrom_83 : decode cX9_shareFrom 83 = .ok (.iload_n 3, 1) := by decide +kernel
theorem dX9_shareFrom_84 : decode cX9_shareFrom 84 = .ok (.dup2, 1) := by decide +kernel
theorem dX9_shareFrom_85 : decode cX9_shareFrom 85 = .ok (.iaload, 1) := by decide +kernel
theorem dX9_shareFrom_86 : decode cX9_shareFrom 86 = .ok (.iload 4, 2) := by decide +kernel
theorem dX9_shareFrom_88 : decode cX9_shareFrom 88 = .ok (.isub, 1) := by decide +kernel
theorem dX9_shareFrom_89 : decode cX9_shareFrom 89 = .ok (.iastore, 1) := by decide +kernel
theorem dX9_shareFrom_90 : decode cX9_shareFrom 90 = .ok (.iinc 3 1, 3) := by decide +kernel
theorem dX9_shareFrom_93 : decode cX9_shareFrom 93 = .ok (.goto (-62), 3) := by decide +kernel
theorem dX9_shareFrom_96 : decode cX9_shareFrom 96 = .ok (.return_, 1) := by decide +kernel
theorem dX9_keepTrial_0 : decode cX9_keepTrial 0 = .ok (.aload_n 0, 1) := by decide +kernel
theorem dX9_keepTrial_1 : decode cX9_keepTrial 1 = .ok (.iload_n 1, 1) := by decide +kernel
theorem dX9_keepTrial_2 : decode cX9_keepTrial 2 = .ok (.putfield 31, 3) := by decide +kernel
theorem dX9_keepTrial_5 : decode cX9_keepTrial 5 = .ok (.iconst 0, 1) := by decide +kernel
theorem dX9_keepTrial_6 : decode cX9_keepTrial 6 = .ok (.istore_n 2, 1) := by decide +kernel
theorem dX9_keepTrial_7 : decode cX9_keepTrial 7 = .ok (.iload_n 2, 1) := by decide +kernel
theorem dX9_keepTrial_8 : decode cX9_keepTrial 8 = .ok (.aload_n 0, 1) := by decide +kernel
theorem dX9_keepTrial_9 : decode cX9_keepTrial 9 = .ok (.getfield 27, 3) := by decide +kernel
theorem dX9_keepTrial_12 : decode cX9_keepTrial 12 = .ok (.if_icmp .ge 21, 3) := by decide +kernel
theorem dX9_keepTrial_15 : decode cX9_keepTrial 15 = .ok (.aload_n 0, 1) := by decide +kernel
theorem dX9_keepTrial_16 : decode cX9_keepTrial 16 = .ok (.getfield 21, 3) := by decide +kernel
theorem dX9_keepTrial_19 : decode cX9_keepTrial 19 = .ok (.iload_n 2, 1) := by decide +kernel
theorem dX9_keepTrial_20 : decode cX9_keepTrial 20 = .ok (.aload_n 0, 1) := by decide +kernel
theorem dX9_keepTrial_21 : decode cX9_keepTrial 21 = .ok (.getfield 18, 3) := by decide +kernel
theorem dX9_keepTrial_24 : decode cX9_keepTrial 24 = .ok (.iload_n 2, 1) := by decide +kernel
theorem dX9_keepTrial_25 : decode cX9_keepTrial 25 = .ok (.iaload, 1) := by decide +kernel
theorem dX9_keepTrial_26 : decode cX9_keepTrial 26 = .ok (.iastore, 1) := by decide +kernel
theorem dX9_keepTrial_27 : decode cX9_keepTrial 27 = .ok (.iinc 2 1, 3) := by decide +kernel
theorem dX9_keepTrial_30 : decode cX9_keepTrial 30 = .ok (.goto (-23), 3) := by decide +kernel
theorem dX9_keepTrial_33 : decode cX9_keepTrial 33 = .ok (.return_, 1) := by decide +kernel
theorem dX9_daysFor_0 : decode cX9_daysFor 0 = .ok (.iconst 1, 1) := by decide +kernel
theorem dX9_daysFor_1 : decode cX9_daysFor 1 = .ok (.aload_n 0, 1) := by decide +kernel
theorem dX9_daysFor_2 : decode cX9_daysFor 2 = .ok (.getfield 9, 3) := by decide +kernel
theorem dX9_daysFor_5 : decode cX9_daysFor 5 = .ok (.iload_n 2, 1) := by decide +kernel
theorem dX9_daysFor_6 : decode cX9_daysFor 6 = .ok (.iaload, 1) := by decide +kernel
theorem dX9_daysFor_7 : decode cX9_daysFor 7 = .ok (.invokestatic 53, 3) := by decide +kernel
theorem dX9_daysFor_10 : decode cX9_daysFor 10 = .ok (.istore_n 3, 1) := by decide +kernel
theorem dX9_daysFor_11 : decode cX9_daysFor 11 = .ok (.aload_n 0, 1) := by decide +kernel
theorem dX9_daysFor_12 : decode cX9_daysFor 12 = .ok (.getfield 15, 3) := by decide +kernel
theorem dX9_daysFor_15 : decode cX9_daysFor 15 = .ok (.iload_n 1, 1) := by decide +kernel
theorem dX9_daysFor_16 : decode cX9_daysFor 16 = .ok (.iaload, 1) := by decide +kernel
theorem dX9_daysFor_17 : decode cX9_daysFor 17 = .ok (.iload_n 3, 1) := by decide +kernel
theorem dX9_daysFor_18 : decode cX9_daysFor 18 = .ok (.iadd, 1) := by decide +kernel
theorem dX9_daysFor_19 : decode cX9_daysFor 19 = .ok (.iconst 1, 1) := by decide +kernel
theorem dX9_daysFor_20 : decode cX9_daysFor 20 = .ok (.isub, 1) := by decide +kernel
theorem dX9_daysFor_21 : decode cX9_daysFor 21 = .ok (.iload_n 3, 1) := by decide +kernel
theorem dX9_daysFor_22 : decode cX9_daysFor 22 = .ok (.idiv, 1) := by decide +kernel
theorem dX9_daysFor_23 : decode cX9_daysFor 23 = .ok (.ireturn, 1) := by decide +kernel
theorem dJ6_numberOfTrailingZeros_0f7a4_0 : decode cJ6_numberOfTrailingZeros_0f7a4 0 = .ok (.iload_n 0, 1) := by decide +kernel
theorem dJ6_numberOfTrailingZeros_0f7a4_1 : decode cJ6_numberOfTrailingZeros_0f7a4 1 = .ok (.iconst (-1), 1) := by decide +kernel
theorem dJ6_numberOfTrailingZeros_0f7a4_2 : decode cJ6_numberOfTrailingZeros_0f7a4 2 = .ok (.ixor, 1) := by decide +kernel
theorem dJ6_numberOfTrailingZeros_0f7a4_3 : decode cJ6_numberOfTrailingZeros_0f7a4 3 = .ok (.iload_n 0, 1) := by decide +kernel
theorem dJ6_numberOfTrailingZeros_0f7a4_4 : decode cJ6_numberOfTrailingZeros_0f7a4 4 = .ok (.iconst 1, 1) := by decide +kernel
theorem dJ6_numberOfTrailingZeros_0f7a4_5 : decode cJ6_numberOfTrailingZeros_0f7a4 5 = .ok (.isub, 1) := by decide +kernel
theorem dJ6_numberOfTrailingZeros_0f7a4_6 : decode cJ6_numberOfTrailingZeros_0f7a4 6 = .ok (.iand, 1) := by decide +kernel
theorem dJ6_numberOfTrailingZeros_0f7a4_7 : decode cJ6_numberOfTrailingZeros_0f7a4 7 = .ok (.istore_n 0, 1) := by decide +kernel
theorem dJ6_numberOfTrailingZeros_0f7a4_8 : decode cJ6_numberOfTrailingZeros_0f7a4 8 = .ok (.iload_n 0, 1) := by decide +kernel
theorem dJ6_numberOfTrailingZeros_0f7a4_9 : decode cJ6_numberOfTrailingZeros_0f7a4 9 = .ok (.ifCond .gt 8, 3) := by decide +kernel
theorem dJ6_numberOfTrailingZeros_0f7a4_12 : decode cJ6_numberOfTrailingZeros_0f7a4 12 = .ok (.iload_n 0, 1) := by decide +kernel
theorem dJ6_numberOfTrailingZeros_0f7a4_13 : decode cJ6_numberOfTrailingZeros_0f7a4 13 = .ok (.bipush 32, 2) := by decide +kernel
theorem dJ6_numberOfTrailingZeros_0f7a4_15 : decode cJ6_numberOfTrailingZeros_0f7a4 15 = .ok (.iand, 1) := by decide +kernel
theorem dJ6_numberOfTrailingZeros_0f7a4_16 : decode cJ6_numberOfTrailingZeros_0f7a4 16 = .ok (.ireturn, 1) := by decide +kernel
theorem dJ6_numberOfTrailingZeros_0f7a4_17 : decode cJ6_numberOfTrailingZeros_0f7a4 17 = .ok (.iconst 1, 1) := by decide +kernel
theorem dJ6_numberOfTrailingZeros_0f7a4_18 : decode cJ6_numberOfTrailingZeros_0f7a4 18 = .ok (.istore_n 1, 1) := by decide +kernel
theorem dJ6_numberOfTrailingZeros_0f7a4_19 : decode cJ6_numberOfTrailingZeros_0f7a4 19 = .ok (.iload_n 0, 1) := by decide +kernel
theorem dJ6_numberOfTrailingZeros_0f7a4_20 : decode cJ6_numberOfTrailingZeros_0f7a4 20 = .ok (.ldc_w 264, 3) := by decide +kernel
theorem dJ6_numberOfTrailingZeros_0f7a4_23 : decode cJ6_numberOfTrailingZeros_0f7a4 23 = .ok (.if_icmp .le 11, 3) := by decide +kernel
theorem dJ6_numberOfTrailingZeros_0f7a4_26 : decode cJ6_numberOfTrailingZeros_0f7a4 26 = .ok (.iinc 1 16, 3) := by decide +kernel
theorem dJ6_numberOfTrailingZeros_0f7a4_29 : decode cJ6_numberOfTrailingZeros_0f7a4 29 = .ok (.iload_n 0, 1) := by decide +kernel
theorem dJ6_numberOfTrailingZeros_0f7a4_30 : decode cJ6_numberOfTrailingZeros_0f7a4 30 = .ok (.bipush 16, 2) := by decide +kernel
theorem dJ6_numberOfTrailingZeros_0f7a4_32 : decode cJ6_numberOfTrailingZeros_0f7a4 32 = .ok (.iushr, 1) := by decide +kernel
theorem dJ6_numberOfTrailingZeros_0f7a4_33 : decode cJ6_numberOfTrailingZeros_0f7a4 33 = .ok (.istore_n 0, 1) := by decide +kernel
theorem dJ6_numberOfTrailingZeros_0f7a4_34 : decode cJ6_numberOfTrailingZeros_0f7a4 34 = .ok (.iload_n 0, 1) := by decide +kernel
theorem dJ6_numberOfTrailingZeros_0f7a4_35 : decode cJ6_numberOfTrailingZeros_0f7a4 35 = .ok (.sipush 256, 3) := by decide +kernel
theorem dJ6_numberOfTrailingZeros_0f7a4_38 : decode cJ6_numberOfTrailingZeros_0f7a4 38 = .ok (.if_icmp .le 11, 3) := by decide +kernel
theorem dJ6_numberOfTrailingZeros_0f7a4_41 : decode cJ6_numberOfTrailingZeros_0f7a4 41 = .ok (.iinc 1 8, 3) := by decide +kernel
theorem dJ6_numberOfTrailingZeros_0f7a4_44 : decode cJ6_numberOfTrailingZeros_0f7a4 44 = .ok (.iload_n 0, 1) := by decide +kernel
theorem dJ6_numberOfTrailingZeros_0f7a4_45 : decode cJ6_numberOfTrailingZeros_0f7a4 45 = .ok (.bipush 8, 2) := by decide +kernel
theorem dJ6_numberOfTrailingZeros_0f7a4_47 : decode cJ6_numberOfTrailingZeros_0f7a4 47 = .ok (.iushr, 1) := by decide +kernel
theorem dJ6_numberOfTrailingZeros_0f7a4_48 : decode cJ6_numberOfTrailingZeros_0f7a4 48 = .ok (.istore_n 0, 1) := by decide +kernel
theorem dJ6_numberOfTrailingZeros_0f7a4_49 : decode cJ6_numberOfTrailingZeros_0f7a4 49 = .ok (.iload_n 0, 1) := by decide +kernel
theorem dJ6_numberOfTrailingZeros_0f7a4_50 : decode cJ6_numberOfTrailingZeros_0f7a4 50 = .ok (.bipush 16, 2) := by decide +kernel
theorem dJ6_numberOfTrailingZeros_0f7a4_52 : decode cJ6_numberOfTrailingZeros_0f7a4 52 = .ok (.if_icmp .le 10, 3) := by decide +kernel
theorem dJ6_numberOfTrailingZeros_0f7a4_55 : decode cJ6_numberOfTrailingZeros_0f7a4 55 = .ok (.iinc 1 4, 3) := by decide +kernel
theorem dJ6_numberOfTrailingZeros_0f7a4_58 : decode cJ6_numberOfTrailingZeros_0f7a4 58 = .ok (.iload_n 0, 1) := by decide +kernel
theorem dJ6_numberOfTrailingZeros_0f7a4_59 : decode cJ6_numberOfTrailingZeros_0f7a4 59 = .ok (.iconst 4, 1) := by decide +kernel
theorem dJ6_numberOfTrailingZeros_0f7a4_60 : decode cJ6_numberOfTrailingZeros_0f7a4 60 = .ok (.iushr, 1) := by decide +kernel
theorem dJ6_numberOfTrailingZeros_0f7a4_61 : decode cJ6_numberOfTrailingZeros_0f7a4 61 = .ok (.istore_n 0, 1) := by decide +kernel
theorem dJ6_numberOfTrailingZeros_0f7a4_62 : decode cJ6_numberOfTrailingZeros_0f7a4 62 = .ok (.iload_n 0, 1) := by decide +kernel
theorem dJ6_numberOfTrailingZeros_0f7a4_63 : decode cJ6_numberOfTrailingZeros_0f7a4 63 = .ok (.iconst 4, 1) := by decide +kernel
theorem dJ6_numberOfTrailingZeros_0f7a4_64 : decode cJ6_numberOfTrailingZeros_0f7a4 64 = .ok (.if_icmp .le 10, 3) := by decide +kernel
theorem dJ6_numberOfTrailingZeros_0f7a4_67 : decode cJ6_numberOfTrailingZeros_0f7a4 67 = .ok (.iinc 1 2, 3) := by decide +kernel
theorem dJ6_numberOfTrailingZeros_0f7a4_70 : decode cJ6_numberOfTrailingZeros_0f7a4 70 = .ok (.iload_n 0, 1) := by decide +kernel
theorem dJ6_numberOfTrailingZeros_0f7a4_71 : decode cJ6_numberOfTrailingZeros_0f7a4 71 = .ok (.iconst 2, 1) := by decide +kernel
theorem dJ6_numberOfTrailingZeros_0f7a4_72 : decode cJ6_numberOfTrailingZeros_0f7a4 72 = .ok (.iushr, 1) := by decide +kernel
theorem dJ6_numberOfTrailingZeros_0f7a4_73 : decode cJ6_numberOfTrailingZeros_0f7a4 73 = .ok (.istore_n 0, 1) := by decide +kernel
theorem dJ6_numberOfTrailingZeros_0f7a4_74 : decode cJ6_numberOfTrailingZeros_0f7a4 74 = .ok (.iload_n 1, 1) := by decide +kernel
theorem dJ6_numberOfTrailingZeros_0f7a4_75 : decode cJ6_numberOfTrailingZeros_0f7a4 75 = .ok (.iload_n 0, 1) := by decide +kernel
theorem dJ6_numberOfTrailingZeros_0f7a4_76 : decode cJ6_numberOfTrailingZeros_0f7a4 76 = .ok (.iconst 1, 1) := by decide +kernel
theorem dJ6_numberOfTrailingZeros_0f7a4_77 : decode cJ6_numberOfTrailingZeros_0f7a4 77 = .ok (.iushr, 1) := by decide +kernel
theorem dJ6_numberOfTrailingZeros_0f7a4_78 : decode cJ6_numberOfTrailingZeros_0f7a4 78 = .ok (.iadd, 1) := by decide +kernel
theorem dJ6_numberOfTrailingZeros_0f7a4_79 : decode cJ6_numberOfTrailingZeros_0f7a4 79 = .ok (.ireturn, 1) := by decide +kernel
end
section
theorem dX10_init_0 : decode cX10_init 0 = .ok (.aload_n 0, 1) := by decide +kernel
theorem dX10_init_1 : decode cX10_init 1 = .ok (.invokespecial 3, 3) := by decide +kernel
theorem dX10_init_4 : decode cX10_init 4 = .ok (.aload_n 0, 1) := by decide +kernel
theorem dX10_init_5 : decode cX10_init 5 = .ok (.bipush 6, 2) := by decide +kernel
theorem dX10_init_7 : decode cX10_init 7 = .ok (.newarray .int, 2) := by decide +kernel
theorem dX10_init_9 : decode cX10_init 9 = .ok (.putfield 9, 3) := by decide +kernel
theorem dX10_init_12 : decode cX10_init 12 = .ok (.aload_n 0, 1) := by decide +kernel
theorem dX10_init_13 : decode cX10_init 13 = .ok (.new 13, 3) := by decide +kernel
theorem dX10_init_16 : decode cX10_init 16 = .ok (.dup, 1) := by decide +kernel
theorem dX10_init_17 : decode cX10_init 17 = .ok (.invokespecial 15, 3) := by decide +kernel
theorem dX10_init_20 : decode cX10_init 20 = .ok (.putfield 16, 3) := by decide +kernel
theorem dX10_init_23 : decode cX10_init 23 = .ok (.aload_n 0, 1) := by decide +kernel
theorem dX10_init_24 : decode cX10_init 24 = .ok (.new 20, 3) := by decide +kernel
theorem dX10_init_27 : decode cX10_init 27 = .ok (.dup, 1) := by decide +kernel
theorem dX10_init_28 : decode cX10_init 28 = .ok (.invokespecial 22, 3) := by decide +kernel
theorem dX10_init_31 : decode cX10_init 31 = .ok (.putfield 23, 3) := by decide +kernel
theorem dX10_init_34 : decode cX10_init 34 = .ok (.aload_n 0, 1) := by decide +kernel
theorem dX10_init_35 : decode cX10_init 35 = .ok (.new 27, 3) := by decide +kernel
theorem dX10_init_38 : decode cX10_init 38 = .ok (.dup, 1) := by decide +kernel
theorem dX10_init_39 : decode cX10_init 39 = .ok (.invokespecial 29, 3) := by decide +kernel
theorem dX10_init_42 : decode cX10_init 42 = .ok (.putfield 30, 3) := by decide +kernel
theorem dX10_init_45 : decode cX10_init 45 = .ok (.aload_n 0, 1) := by decide +kernel
theorem dX10_init_46 : decode cX10_init 46 = .ok (.new 34, 3) := by decide +kernel
theorem dX10_init_49 : decode cX10_init 49 = .ok (.dup, 1) := by decide +kernel
theorem dX10_init_50 : decode cX10_init 50 = .ok (.invokespecial 36, 3) := by decide +kernel
theorem dX10_init_53 : decode cX10_init 53 = .ok (.putfield 37, 3) := by decide +kernel
theorem dX10_init_56 : decode cX10_init 56 = .ok (.aload_n 0, 1) := by decide +kernel
theorem dX10_init_57 : decode cX10_init 57 = .ok (.new 41, 3) := by decide +kernel
theorem dX10_init_60 : decode cX10_init 60 = .ok (.dup, 1) := by decide +kernel
theorem dX10_init_61 : decode cX10_init 61 = .ok (.invokespecial 43, 3) := by decide +kernel
theorem dX10_init_64 : decode cX10_init 64 = .ok (.putfield 44, 3) := by decide +kernel
theorem dX10_init_67 : decode cX10_init 67 = .ok (.aload_n 0, 1) := by decide +kernel
theorem dX10_init_68 : decode cX10_init 68 = .ok (.new 48, 3) := by decide +kernel
theorem dX10_init_71 : decode cX10_init 71 = .ok (.dup, 1) := by decide +kernel
theorem dX10_init_72 : decode cX10_init 72 = .ok (.invokespecial 50, 3) := by decide +kernel
theorem dX10_init_75 : decode cX10_init 75 = .ok (.putfield 51, 3) := by decide +kernel
theorem dX10_init_78 : decode cX10_init 78 = .ok (.aload_n 0, 1) := by decide +kernel
theorem dX10_init_79 : decode cX10_init 79 = .ok (.new 55, 3) := by decide +kernel
theorem dX10_init_82 : decode cX10_init 82 = .ok (.dup, 1) := by decide +kernel
theorem dX10_init_83 : decode cX10_init 83 = .ok (.invokespecial 57, 3) := by decide +kernel
theorem dX10_init_86 : decode cX10_init 86 = .ok (.putfield 58, 3) := by decide +kernel
theorem dX10_init_89 : decode cX10_init 89 = .ok (.aload_n 0, 1) := by decide +kernel
theorem dX10_init_90 : decode cX10_init 90 = .ok (.new 62, 3) := by decide +kernel
theorem dX10_init_93 : decode cX10_init 93 = .ok (.dup, 1) := by decide +kernel
theorem dX10_init_94 : decode cX10_init 94 = .ok (.invokespecial 64, 3) := by decide +kernel
theorem dX10_init_97 : decode cX10_init 97 = .ok (.putfield 65, 3) := by decide +kernel
theorem dX10_init_100 : decode cX10_init 100 = .ok (.aload_n 0, 1) := by decide +kernel
theorem dX10_init_101 : decode cX10_init 101 = .ok (.new 69, 3) := by decide +kernel
theorem dX10_init_104 : decode cX10_init 104 = .ok (.dup, 1) := by decide +kernel
theorem dX10_init_105 : decode cX10_init 105 = .ok (.invokespecial 71, 3) := by decide +kernel
theorem dX10_init_108 : decode cX10_init 108 = .ok (.putfield 72, 3) := by decide +kernel
theorem dX10_init_111 : decode cX10_init 111 = .ok (.aload_n 0, 1) := by decide +kernel
theorem dX10_init_112 : decode cX10_init 112 = .ok (.new 76, 3) := by decide +kernel
theorem dX10_init_115 : decode cX10_init 115 = .ok (.dup, 1) := by decide +kernel
theorem dX10_init_116 : decode cX10_init 116 = .ok (.invokespecial 78, 3) := by decide +kernel
theorem dX10_init_119 : decode cX10_init 119 = .ok (.putfield 79, 3) := by decide +kernel
theorem dX10_init_122 : decode cX10_init 122 = .ok (.aload_n 0, 1) := by decide +kernel
theorem dX10_init_123 : decode cX10_init 123 = .ok (.iconst 0, 1) := by decide +kernel
theorem dX10_init_124 : decode cX10_init 124 = .ok (.putfield 83, 3) := by decide +kernel
theorem dX10_init_127 : decode cX10_init 127 = .ok (.return_, 1) := by decide +kernel
theorem dX10_paste_0 : decode cX10_paste 0 = .ok (.iload_n 1, 1) := by decide +kernel
theorem dX10_paste_1 : decode cX10_paste 1 = .ok (.bipush 6, 2) := by decide +kernel
theorem dX10_paste_3 : decode cX10_paste 3 = .ok (.invokestatic 87, 3) := by decide +kernel
theorem dX10_paste_6 : decode cX10_paste 6 = .ok (.ifCond .ne 9, 3) := by decide +kernel
theorem dX10_paste_9 : decode cX10_paste 9 = .ok (.aload_n 0, 1) := by decide +kernel
theorem dX10_paste_10 : decode cX10_paste 10 = .ok (.iconst (-1), 1) := by decide +kernel
theorem dX10_paste_11 : decode cX10_paste 11 = .ok (.invokevirtual 91, 3) := by decide +kernel
theorem dX10_paste_14 : decode cX10_paste 14 = .ok (.ireturn, 1) := by decide +kernel
theorem dX10_paste_15 : decode cX10_paste 15 = .ok (.iload_n 2, 1) := by decide +kernel
theorem dX10_paste_16 : decode cX10_paste 16 = .ok (.iconst 4, 1) := by decide +kernel
theorem dX10_paste_17 : decode cX10_paste 17 = .ok (.invokestatic 87, 3) := by decide +kernel
theorem dX10_paste_20 : decode cX10_paste 20 = .ok (.ifCond .ne 10, 3) := by decide +kernel
theorem dX10_paste_23 : decode cX10_paste 23 = .ok (.aload_n 0, 1) := by decide +kernel
theorem dX10_paste_24 : decode cX10_paste 24 = .ok (.bipush (-2), 2) := by decide +kernel
theorem dX10_paste_26 : decode cX10_paste 26 = .ok (.invokevirtual 91, 3) := by decide +kernel
theorem dX10_paste_29 : decode cX10_paste 29 = .ok (.ireturn, 1) := by decide +kernel
theorem dX10_paste_30 : decode cX10_paste 30 = .ok (.iload_n 3, 1) := by decide +kernel
theorem dX10_paste_31 : decode cX10_paste 31 = .ok (.ifCond .ge 10, 3) := by decide +kernel
theorem dX10_paste_34 : decode cX10_paste 34 = .ok (.aload_n 0, 1) := by decide +kernel
theorem dX10_paste_35 : decode cX10_paste 35 = .ok (.bipush (-4), 2) := by decide +kernel
theorem dX10_paste_37 : decode cX10_paste 37 = .ok (.invokevirtual 91, 3) := by decide +kernel
theorem dX10_paste_40 : decode cX10_paste 40 = .ok (.ireturn, 1) := by decide +kernel
theorem dX10_paste_41 : decode cX10_paste 41 = .ok (.iload_n 3, 1) := by decide +kernel
theorem dX10_paste_42 : decode cX10_paste 42 = .ok (.getstatic 95, 3) := by decide +kernel
theorem dX10_paste_45 : decode cX10_paste 45 = .ok (.iload_n 2, 1) := by decide +kernel
theorem dX10_paste_46 : decode cX10_paste 46 = .ok (.iaload, 1) := by decide +kernel
theorem dX10_paste_47 : decode cX10_paste 47 = .ok (.if_icmp .le 10, 3) := by decide +kernel
theorem dX10_paste_50 : decode cX10_paste 50 = .ok (.aload_n 0, 1) := by decide +kernel
theorem dX10_paste_51 : decode cX10_paste 51 = .ok (.bipush (-6), 2) := by decide +kernel
theorem dX10_paste_53 : decode cX10_paste 53 = .ok (.invokevirtual 91, 3) := by decide +kernel
theorem dX10_paste_56 : decode cX10_paste 56 = .ok (.ireturn, 1) := by decide +kernel
theorem dX10_paste_57 : decode cX10_paste 57 = .ok (.aload_n 0, 1) := by decide +kernel
theorem dX10_paste_58 : decode cX10_paste 58 = .ok (.getfield 16, 3) := by decide +kernel
theorem dX10_paste_61 : decode cX10_paste 61 = .ok (.iload_n 1, 1) := by decide +kernel
theorem dX10_paste_62 : decode cX10_paste 62 = .ok (.iload_n 2, 1) := by decide +kernel
theorem dX10_paste_63 : decode cX10_paste 63 = .ok (.iload_n 3, 1) := by decide +kernel
theorem dX10_paste_64 : decode cX10_paste 64 = .ok (.invokevirtual 98, 3) := by decide +kernel
theorem dX10_paste_67 : decode cX10_paste 67 = .ok (.ireturn, 1) := by decide +kernel
theorem dX10_batch_0 : decode cX10_batch 0 = .ok (.iload_n 1, 1) := by decide +kernel
theorem dX10_batch_1 : decode cX10_batch 1 = .ok (.bipush 6, 2) := by decide +kernel
theorem dX10_batch_3 : decode cX10_batch 3 = .ok (.invokestatic 87, 3) := by decide +kernel
theorem dX10_batch_6 : decode cX10_batch 6 = .ok (.ifCond .ne 9, 3) := by decide +kernel
theorem dX10_batch_9 : decode cX10_batch 9 = .ok (.aload_n 0, 1) := by decide +kernel
theorem dX10_batch_10 : decode cX10_batch 10 = .ok (.iconst (-1), 1) := by decide +kernel
theorem dX10_batch_11 : decode cX10_batch 11 = .ok (.invokevirtual 91, 3) := by decide +kernel
theorem dX10_batch_14 : decode cX10_batch 14 = .ok (.ireturn, 1) := by decide +kernel
theorem dX10_batch_15 : decode cX10_batch 15 = .ok (.iload_n 2, 1) := by decide +kernel
theorem dX10_batch_16 : decode cX10_batch 16 = .ok (.iconst 1, 1) := by decide +kernel
theorem dX10_batch_17 : decode cX10_batch 17 = .ok (.if_icmp .ge 10, 3) := by decide +kernel
theorem dX10_batch_20 : decode cX10_batch 20 = .ok (.aload_n 0, 1) := by decide +kernel
theorem dX10_batch_21 : decode cX10_batch 21 = .ok (.bipush (-4), 2) := by decide +kernel
theorem dX10_batch_23 : decode cX10_batch 23 = .ok (.invokevirtual 91, 3) := by decide +kernel
theorem dX10_batch_26 : decode cX10_batch 26 = .ok (.ireturn, 1) := by decide +kernel
theorem dX10_batch_27 : decode cX10_batch 27 = .ok (.iload_n 2, 1) := by decide +kernel
theorem dX10_batch_28 : decode cX10_batch 28 = .ok (.sipush 1000, 3) := by decide +kernel
theorem dX10_batch_31 : decode cX10_batch 31 = .ok (.if_icmp .gt 15, 3) := by decide +kernel
theorem dX10_batch_34 : decode cX10_batch 34 = .ok (.aload_n 0, 1) := by decide +kernel
theorem dX10_batch_35 : decode cX10_batch 35 = .ok (.getfield 16, 3) := by decide +kernel
theorem dX10_batch_38 : decode cX10_batch 38 = .ok (.getfield 102, 3) := by decide +kernel
theorem dX10_batch_41 : decode cX10_batch 41 = .ok (.bipush 20, 2) := by decide +kernel
theorem dX10_batch_43 : decode cX10_batch 43 = .ok (.if_icmp .lt 10, 3) := by decide +kernel
theorem dX10_batch_46 : decode cX10_batch 46 = .ok (.aload_n 0, 1) := by decide +kernel
theorem dX10_batch_47 : decode cX10_batch 47 = .ok (.bipush (-6), 2) := by decide +kernel
theorem dX10_batch_49 : decode cX10_batch 49 = .ok (.invokevirtual 91, 3) := by decide +kernel
theorem dX10_batch_52 : decode cX10_batch 52 = .ok (.ireturn, 1) := by decide +kernel
theorem dX10_batch_53 : decode cX10_batch 53 = .ok (.aload_n 0, 1) := by decide +kernel
theorem dX10_batch_54 : decode cX10_batch 54 = .ok (.getfield 16, 3) := by decide +kernel
theorem dX10_batch_57 : decode cX10_batch 57 = .ok (.iload_n 1, 1) := by decide +kernel
theorem dX10_batch_58 : decode cX10_batch 58 = .ok (.iload_n 2, 1) := by decide +kernel
theorem dX10_batch_59 : decode cX10_batch 59 = .ok (.aload_n 0, 1) := by decide +kernel
theorem dX10_batch_60 : decode cX10_batch 60 = .ok (.getfield 83, 3) := by decide +kernel
theorem dX10_batch_63 : decode cX10_batch 63 = .ok (.invokevirtual 105, 3) := by decide +kernel
theorem dX10_batch_66 : decode cX10_batch 66 = .ok (.ireturn, 1) := by decide +kernel
theorem dX10_days_0 : decode cX10_days 0 = .ok (.iload_n 1, 1) := by decide +kernel
theorem dX10_days_1 : decode cX10_days 1 = .ok (.iconst 1, 1) := by decide +kernel
theorem dX10_days_2 : decode cX10_days 2 = .ok (.if_icmp .ge 10, 3) := by decide +kernel
theorem dX10_days_5 : decode cX10_days 5 = .ok (.aload_n 0, 1) := by decide +kernel
theorem dX10_days_6 : decode cX10_days 6 = .ok (.bipush (-4), 2) := by decide +kernel
theorem dX10_days_8 : decode cX10_days 8 = .ok (.invokevirtual 91, 3) := by decide +kernel
theorem dX10_days_11 : decode cX10_days 11 = .ok (.ireturn, 1) := by decide +kernel
theorem dX10_days_12 : decode cX10_days 12 = .ok (.iload_n 1, 1) := by decide +kernel
theorem dX10_days_13 : decode cX10_days 13 = .ok (.sipush 4000, 3) := by decide +kernel
theorem dX10_days_16 : decode cX10_days 16 = .ok (.aload_n 0, 1) := by decide +kernel
theorem dX10_days_17 : decode cX10_days 17 = .ok (.getfield 83, 3) := by decide +kernel
theorem dX10_days_20 : decode cX10_days 20 = .ok (.isub, 1) := by decide +kernel
theorem dX10_days_21 : decode cX10_days 21 = .ok (.if_icmp .le 10, 3) := by decide +kernel
theorem dX10_days_24 : decode cX10_days 24 = .ok (.aload_n 0, 1) := by decide +kernel
theorem dX10_days_25 : decode cX10_days 25 = .ok (.bipush (-6), 2) := by decide +kernel
theorem dX10_days_27 : decode cX10_days 27 = .ok (.invokevirtual 91, 3) := by decide +kernel
theorem dX10_days_30 : decode cX10_days 30 = .ok (.ireturn, 1) := by decide +kernel
theorem dX10_days_31 : decode cX10_days 31 = .ok (.aload_n 0, 1) := by decide +kernel
theorem dX10_days_32 : decode cX10_days 32 = .ok (.iload_n 1, 1) := by decide +kernel
theorem dX10_days_33 : decode cX10_days 33 = .ok (.invokevirtual 108, 3) := by decide +kernel
theorem dX10_days_36 : decode cX10_days 36 = .ok (.aload_n 0, 1) := by decide +kernel
theorem dX10_days_37 : decode cX10_days 37 = .ok (.getfield 83, 3) := by decide +kernel
theorem dX10_days_40 : decode cX10_days 40 = .ok (.ireturn, 1) := by decide +kernel
theorem dX10_piece_0 : decode cX10_piece 0 = .ok (.iload_n 1, 1) := by decide +kernel
theorem dX10_piece_1 : decode cX10_piece 1 = .ok (.aload_n 0, 1) := by decide +kernel
theorem dX10_piece_2 : decode cX10_piece 2 = .ok (.getfield 16, 3) := by decide +kernel
theorem dX10_piece_5 : decode cX10_piece 5 = .ok (.getfield 102, 3) := by decide +kernel
theorem dX10_piece_8 : decode cX10_piece 8 = .ok (.invokestatic 87, 3) := by decide +kernel
theorem dX10_piece_11 : decode cX10_piece 11 = .ok (.ifCond .eq 12, 3) := by decide +kernel
theorem dX10_piece_14 : decode cX10_piece 14 = .ok (.iload_n 2, 1) := by decide +kernel
theorem dX10_piece_15 : decode cX10_piece 15 = .ok (.bipush 10, 2) := by decide +kernel
theorem dX10_piece_17 : decode cX10_piece 17 = .ok (.invokestatic 87, 3) := by decide +kernel
theorem dX10_piece_20 : decode cX10_piece 20 = .ok (.ifCond .ne 9, 3) := by decide +kernel
theorem dX10_piece_23 : decode cX10_piece 23 = .ok (.aload_n 0, 1) := by decide +kernel
theorem dX10_piece_24 : decode cX10_piece 24 = .ok (.iconst (-1), 1) := by decide +kernel
theorem dX10_piece_25 : decode cX10_piece 25 = .ok (.invokevirtual 91, 3) := by decide +kernel
theorem dX10_piece_28 : decode cX10_piece 28 = .ok (.ireturn, 1) := by decide +kernel
theorem dX10_piece_29 : decode cX10_piece 29 = .ok (.aload_n 0, 1) := by decide +kernel
theorem dX10_piece_30 : decode cX10_piece 30 = .ok (.getfield 16, 3) := by decide +kernel
theorem dX10_piece_33 : decode cX10_piece 33 = .ok (.iload_n 1, 1) := by decide +kernel
theorem dX10_piece_34 : decode cX10_piece 34 = .ok (.aload_n 0, 1) := by decide +kernel
theorem dX10_piece_35 : decode cX10_piece 35 = .ok (.getfield 83, 3) := by decide +kernel
theorem dX10_piece_38 : decode cX10_piece 38 = .ok (.invokevirtual 112, 3) := by decide +kernel
theorem dX10_piece_41 : decode cX10_piece 41 = .ok (.ifCond .ne 10, 3) := by decide +kernel
theorem dX10_piece_44 : decode cX10_piece 44 = .ok (.aload_n 0, 1) := by decide +kernel
theorem dX10_piece_45 : decode cX10_piece 45 = .ok (.bipush (-3), 2) := by decide +kernel
theorem dX10_piece_47 : decode cX10_piece 47 = .ok (.invokevirtual 91, 3) := by decide +kernel
theorem dX10_piece_50 : decode cX10_piece 50 = .ok (.ireturn, 1) := by decide +kernel
theorem dX10_piece_51 : decode cX10_piece 51 = .ok (.iload_n 3, 1) := by decide +kernel
theorem dX10_piece_52 : decode cX10_piece 52 = .ok (.iconst 1, 1) := by decide +kernel
theorem dX10_piece_53 : decode cX10_piece 53 = .ok (.if_icmp .lt 10, 3) := by decide +kernel
theorem dX10_piece_56 : decode cX10_piece 56 = .ok (.iload 4, 2) := by decide +kernel
theorem dX10_piece_58 : decode cX10_piece 58 = .ok (.bipush 10, 2) := by decide +kernel
theorem dX10_piece_60 : decode cX10_piece 60 = .ok (.if_icmp .ge 10, 3) := by decide +kernel
theorem dX10_piece_63 : decode cX10_piece 63 = .ok (.aload_n 0, 1) := by decide +kernel
theorem dX10_piece_64 : decode cX10_piece 64 = .ok (.bipush (-4), 2) := by decide +kernel
theorem dX10_piece_66 : decode cX10_piece 66 = .ok (.invokevirtual 91, 3) := by decide +kernel
theorem dX10_piece_69 : decode cX10_piece 69 = .ok (.ireturn, 1) := by decide +kernel
theorem dX10_piece_70 : decode cX10_piece 70 = .ok (.iload_n 3, 1) := by decide +kernel
theorem dX10_piece_71 : decode cX10_piece 71 = .ok (.bipush 40, 2) := by decide +kernel
theorem dX10_piece_73 : decode cX10_piece 73 = .ok (.if_icmp .gt 36, 3) := by decide +kernel
theorem dX10_piece_76 : decode cX10_piece 76 = .ok (.iload_n 3, 1) := by decide +kernel
theorem dX10_piece_77 : decode cX10_piece 77 = .ok (.aload_n 0, 1) := by decide +kernel
theorem dX10_piece_78 : decode cX10_piece 78 = .ok (.getfield 16, 3) := by decide +kernel
theorem dX10_piece_81 : decode cX10_piece 81 = .ok (.getfield 115, 3) := by decide +kernel
theorem dX10_piece_84 : decode cX10_piece 84 = .ok (.iload_n 1, 1) := by decide +kernel
theorem dX10_piece_85 : decode cX10_piece 85 = .ok (.iaload, 1) := by decide +kernel
theorem dX10_piece_86 : decode cX10_piece 86 = .ok (.if_icmp .gt 23, 3) := by decide +kernel
theorem dX10_piece_89 : decode cX10_piece 89 = .ok (.iload 4, 2) := by decide +kernel
theorem dX10_piece_91 : decode cX10_piece 91 = .ok (.sipush 900, 3) := by decide +kernel
theorem dX10_piece_94 : decode cX10_piece 94 = .ok (.if_icmp .gt 15, 3) := by decide +kernel
theorem dX10_piece_97 : decode cX10_piece 97 = .ok (.aload_n 0, 1) := by decide +kernel
theorem dX10_piece_98 : decode cX10_piece 98 = .ok (.getfield 23, 3) := by decide +kernel
theorem dX10_piece_101 : decode cX10_piece 101 = .ok (.getfield 118, 3) := by decide +kernel
theorem dX10_piece_104 : decode cX10_piece 104 = .ok (.bipush 80, 2) := by decide +kernel
theorem dX10_piece_106 : decode cX10_piece 106 = .ok (.if_icmp .lt 10, 3) := by decide +kernel
theorem dX10_piece_109 : decode cX10_piece 109 = .ok (.aload_n 0, 1) := by decide +kernel
theorem dX10_piece_110 : decode cX10_piece 110 = .ok (.bipush (-6), 2) := by decide +kernel
theorem dX10_piece_112 : decode cX10_piece 112 = .ok (.invokevirtual 91, 3) := by decide +kernel
theorem dX10_piece_115 : decode cX10_piece 115 = .ok (.ireturn, 1) := by decide +kernel
theorem dX10_piece_116 : decode cX10_piece 116 = .ok (.aload_n 0, 1) := by decide +kernel
theorem dX10_piece_117 : decode cX10_piece 117 = .ok (.getfield 16, 3) := by decide +kernel
theorem dX10_piece_120 : decode cX10_piece 120 = .ok (.getfield 115, 3) := by decide +kernel
theorem dX10_piece_123 : decode cX10_piece 123 = .ok (.iload_n 1, 1) := by decide +kernel
theorem dX10_piece_124 : decode cX10_piece 124 = .ok (.dup2, 1) := by decide +kernel
theorem dX10_piece_125 : decode cX10_piece 125 = .ok (.iaload, 1) := by decide +kernel
theorem dX10_piece_126 : decode cX10_piece 126 = .ok (.iload_n 3, 1) := by decide +kernel
theorem dX10_piece_127 : decode cX10_piece 127 = .ok (.isub, 1) := by decide +kernel
theorem dX10_piece_128 : decode cX10_piece 128 = .ok (.iastore, 1) := by decide +kernel
theorem dX10_piece_129 : decode cX10_piece 129 = .ok (.aload_n 0, 1) := by decide +kernel
theorem dX10_piece_130 : decode cX10_piece 130 = .ok (.getfield 23, 3) := by decide +kernel
theorem dX10_piece_133 : decode cX10_piece 133 = .ok (.aload_n 0, 1) := by decide +kernel
theorem dX10_piece_134 : decode cX10_piece 134 = .ok (.getfield 16, 3) := by decide +kernel
theorem dX10_piece_137 : decode cX10_piece 137 = .ok (.getfield 121, 3) := by decide +kernel
theorem dX10_piece_140 : decode cX10_piece 140 = .ok (.iload_n 1, 1) := by decide +kernel
theorem dX10_piece_141 : decode cX10_piece 141 = .ok (.iaload, 1) := by decide +kernel
theorem dX10_piece_142 : decode cX10_piece 142 = .ok (.iload_n 2, 1) := by decide +kernel
theorem dX10_piece_143 : decode cX10_piece 143 = .ok (.iload 4, 2) := by decide +kernel
theorem dX10_piece_145 : decode cX10_piece 145 = .ok (.invokevirtual 124, 3) := by decide +kernel
theorem dX10_piece_148 : decode cX10_piece 148 = .ok (.ireturn, 1) := by decide +kernel
theorem dX10_place_0 : decode cX10_place 0 = .ok (.iload_n 1, 1) := by decide +kernel
theorem dX10_place_1 : decode cX10_place 1 = .ok (.bipush 12, 2) := by decide +kernel
theorem dX10_place_3 : decode cX10_place 3 = .ok (.invokestatic 87, 3) := by decide +kernel
theorem dX10_place_6 : decode cX10_place 6 = .ok (.ifCond .ne 9, 3) := by decide +kernel
theorem dX10_place_9 : decode cX10_place 9 = .ok (.aload_n 0, 1) := by decide +kernel
theorem dX10_place_10 : decode cX10_place 10 = .ok (.iconst (-1), 1) := by decide +kernel
theorem dX10_place_11 : decode cX10_place 11 = .ok (.invokevirtual 91, 3) := by decide +kernel
theorem dX10_place_14 : decode cX10_place 14 = .ok (.ireturn, 1) := by decide +kernel
theorem dX10_place_15 : decode cX10_place 15 = .ok (.iload_n 2, 1) := by decide +kernel
theorem dX10_place_16 : decode cX10_place 16 = .ok (.iconst 2, 1) := by decide +kernel
theorem dX10_place_17 : decode cX10_place 17 = .ok (.invokestatic 87, 3) := by decide +kernel
theorem dX10_place_20 : decode cX10_place 20 = .ok (.ifCond .ne 10, 3) := by decide +kernel
theorem dX10_place_23 : decode cX10_place 23 = .ok (.aload_n 0, 1) := by decide +kernel
theorem dX10_place_24 : decode cX10_place 24 = .ok (.bipush (-2), 2) := by decide +kernel
theorem dX10_place_26 : decode cX10_place 26 = .ok (.invokevirtual 91, 3) := by decide +kernel
theorem dX10_place_29 : decode cX10_place 29 = .ok (.ireturn, 1) := by decide +kernel
theorem dX10_place_30 : decode cX10_place 30 = .ok (.iload_n 3, 1) := by decide +kernel
theorem dX10_place_31 : decode cX10_place 31 = .ok (.getstatic 127, 3) := by decide +kernel
theorem dX10_place_34 : decode cX10_place 34 = .ok (.iload_n 2, 1) := by decide +kernel
theorem dX10_place_35 : decode cX10_place 35 = .ok (.iaload, 1) := by decide +kernel
theorem dX10_place_36 : decode cX10_place 36 = .ok (.if_icmp .ge 10, 3) := by decide +kernel
theorem dX10_place_39 : decode cX10_place 39 = .ok (.aload_n 0, 1) := by decide +kernel
theorem dX10_place_40 : decode cX10_place 40 = .ok (.bipush (-4), 2) := by decide +kernel
theorem dX10_place_42 : decode cX10_place 42 = .ok (.invokevirtual 91, 3) := by decide +kernel
theorem dX10_place_45 : decode cX10_place 45 = .ok (.ireturn, 1) := by decide +kernel
theorem dX10_place_46 : decode cX10_place 46 = .ok (.iload_n 3, 1) := by decide +kernel
theorem dX10_place_47 : decode cX10_place 47 = .ok (.getstatic 130, 3) := by decide +kernel
theorem dX10_place_50 : decode cX10_place 50 = .ok (.iload_n 2, 1) := by decide +kernel
theorem dX10_place_51 : decode cX10_place 51 = .ok (.iaload, 1) := by decide +kernel
theorem dX10_place_52 : decode cX10_place 52 = .ok (.if_icmp .le 10, 3) := by decide +kernel
theorem dX10_place_55 : decode cX10_place 55 = .ok (.aload_n 0, 1) := by decide +kernel
theorem dX10_place_56 : decode cX10_place 56 = .ok (.bipush (-6), 2) := by decide +kernel
theorem dX10_place_58 : decode cX10_place 58 = .ok (.invokevirtual 91, 3) := by decide +kernel
theorem dX10_place_61 : decode cX10_place 61 = .ok (.ireturn, 1) := by decide +kernel
theorem dX10_place_62 : decode cX10_place 62 = .ok (.aload_n 0, 1) := by decide +kernel
theorem dX10_place_63 : decode cX10_place 63 = .ok (.getfield 30, 3) := by decide +kernel
theorem dX10_place_66 : decode cX10_place 66 = .ok (.iload_n 1, 1) := by decide +kernel
theorem dX10_place_67 : decode cX10_place 67 = .ok (.iload_n 2, 1) := by decide +kernel
theorem dX10_place_68 : decode cX10_place 68 = .ok (.iload_n 3, 1) := by decide +kernel
theorem dX10_place_69 : decode cX10_place 69 = .ok (.invokevirtual 133, 3) := by decide +kernel
theorem dX10_place_72 : decode cX10_place 72 = .ok (.ireturn, 1) := by decide +kernel
theorem dX10_wood_0 : decode cX10_wood 0 = .ok (.iload_n 1, 1) := by decide +kernel
theorem dX10_wood_1 : decode cX10_wood 1 = .ok (.ifCond .ge 10, 3) := by decide +kernel
theorem dX10_wood_4 : decode cX10_wood 4 = .ok (.aload_n 0, 1) := by decide +kernel
theorem dX10_wood_5 : decode cX10_wood 5 = .ok (.bipush (-4), 2) := by decide +kernel
theorem dX10_wood_7 : decode cX10_wood 7 = .ok (.invokevirtual 91, 3) := by decide +kernel
theorem dX10_wood_10 : decode cX10_wood 10 = .ok (.ireturn, 1) := by decide +kernel
theorem dX10_wood_11 : decode cX10_wood 11 = .ok (.iload_n 1, 1) := by decide +kernel
theorem dX10_wood_12 : decode cX10_wood 12 = .ok (.bipush 50, 2) := by decide +kernel
theorem dX10_wood_14 : decode cX10_wood 14 = .ok (.if_icmp .gt 15, 3) := by decide +kernel
theorem dX10_wood_17 : decode cX10_wood 17 = .ok (.aload_n 0, 1) := by decide +kernel
theorem dX10_wood_18 : decode cX10_wood 18 = .ok (.getfield 30, 3) := by decide +kernel
theorem dX10_wood_21 : decode cX10_wood 21 = .ok (.getfield 134, 3) := by decide +kernel
theorem dX10_wood_24 : decode cX10_wood 24 = .ok (.bipush 48, 2) := by decide +kernel
theorem dX10_wood_26 : decode cX10_wood 26 = .ok (.if_icmp .lt 10, 3) := by decide +kernel
theorem dX10_wood_29 : decode cX10_wood 29 = .ok (.aload_n 0, 1) := by decide +kernel
theorem dX10_wood_30 : decode cX10_wood 30 = .ok (.bipush (-6), 2) := by decide +kernel
theorem dX10_wood_32 : decode cX10_wood 32 = .ok (.invokevirtual 91, 3) := by decide +kernel
theorem dX10_wood_35 : decode cX10_wood 35 = .ok (.ireturn, 1) := by decide +kernel
theorem dX10_wood_36 : decode cX10_wood 36 = .ok (.aload_n 0, 1) := by decide +kernel
theorem dX10_wood_37 : decode cX10_wood 37 = .ok (.getfield 30, 3) := by decide +kernel
theorem dX10_wood_40 : decode cX10_wood 40 = .ok (.iload_n 1, 1) := by decide +kernel
theorem dX10_wood_41 : decode cX10_wood 41 = .ok (.invokevirtual 137, 3) := by decide +kernel
theorem dX10_wood_44 : decode cX10_wood 44 = .ok (.ireturn, 1) := by decide +kernel
theorem dX10_clear_0 : decode cX10_clear 0 = .ok (.aload_n 0, 1) := by decide +kernel
theorem dX10_clear_1 : decode cX10_clear 1 = .ok (.getfield 30, 3) := by decide +kernel
theorem dX10_clear_4 : decode cX10_clear 4 = .ok (.invokevirtual 140, 3) := by decide +kernel
theorem dX10_clear_7 : decode cX10_clear 7 = .ok (.ireturn, 1) := by decide +kernel
theorem dX10_peak_0 : decode cX10_peak 0 = .ok (.iload_n 1, 1) := by decide +kernel
theorem dX10_peak_1 : decode cX10_peak 1 = .ok (.bipush 12, 2) := by decide +kernel
theorem dX10_peak_3 : decode cX10_peak 3 = .ok (.invokestatic 87, 3) := by decide +kernel
theorem dX10_peak_6 : decode cX10_peak 6 = .ok (.ifCond .ne 9, 3) := by decide +kernel
theorem dX10_peak_9 : decode cX10_peak 9 = .ok (.aload_n 0, 1) := by decide +kernel
theorem dX10_peak_10 : decode cX10_peak 10 = .ok (.iconst (-1), 1) := by decide +kernel
theorem dX10_peak_11 : decode cX10_peak 11 = .ok (.invokevirtual 91, 3) := by decide +kernel
theorem dX10_peak_14 : decode cX10_peak 14 = .ok (.ireturn, 1) := by decide +kernel
theorem dX10_peak_15 : decode cX10_peak 15 = .ok (.aload_n 0, 1) := by decide +kernel
theorem dX10_peak_16 : decode cX10_peak 16 = .ok (.getfield 30, 3) := by decide +kernel
theorem dX10_peak_19 : decode cX10_peak 19 = .ok (.aload_n 0, 1) := by decide +kernel
theorem dX10_peak_20 : decode cX10_peak 20 = .ok (.getfield 30, 3) := by decide +kernel
theorem dX10_peak_23 : decode cX10_peak 23 = .ok (.getfield 134, 3) := by decide +kernel
theorem dX10_peak_26 : decode cX10_peak 26 = .ok (.invokevirtual 144, 3) := by decide +kernel
theorem dX10_peak_29 : decode cX10_peak 29 = .ok (.aload_n 0, 1) := by decide +kernel
theorem dX10_peak_30 : decode cX10_peak 30 = .ok (.getfield 30, 3) := by decide +kernel
theorem dX10_peak_33 : decode cX10_peak 33 = .ok (.getfield 147, 3) := by decide +kernel
theorem dX10_peak_36 : decode cX10_peak 36 = .ok (.iload_n 1, 1) := by decide +kernel
theorem dX10_peak_37 : decode cX10_peak 37 = .ok (.iaload, 1) := by decide +kernel
theorem dX10_peak_38 : decode cX10_peak 38 = .ok (.ireturn, 1) := by decide +kernel
theorem dX10_heat_0 : decode cX10_heat 0 = .ok (.iload_n 1, 1) := by decide +kernel
theorem dX10_heat_1 : decode cX10_heat 1 = .ok (.bipush 12, 2) := by decide +kernel
theorem dX10_heat_3 : decode cX10_heat 3 = .ok (.invokestatic 87, 3) := by decide +kernel
theorem dX10_heat_6 : decode cX10_heat 6 = .ok (.ifCond .ne 9, 3) := by decide +kernel
theorem dX10_heat_9 : decode cX10_heat 9 = .ok (.aload_n 0, 1) := by decide +kernel
theorem dX10_heat_10 : decode cX10_heat 10 = .ok (.iconst (-1), 1) := by decide +kernel
theorem dX10_heat_11 : decode cX10_heat 11 = .ok (.invokevirtual 91, 3) := by decide +kernel
theorem dX10_heat_14 : decode cX10_heat 14 = .ok (.ireturn, 1) := by decide +kernel
theorem dX10_heat_15 : decode cX10_heat 15 = .ok (.iload_n 2, 1) := by decide +kernel
theorem dX10_heat_16 : decode cX10_heat 16 = .ok (.ifCond .ge 10, 3) := by decide +kernel
theorem dX10_heat_19 : decode cX10_heat 19 = .ok (.aload_n 0, 1) := by decide +kernel
theorem dX10_heat_20 : decode cX10_heat 20 = .ok (.bipush (-4), 2) := by decide +kernel
theorem dX10_heat_22 : decode cX10_heat 22 = .ok (.invokevirtual 91, 3) := by decide +kernel
theorem dX10_heat_25 : decode cX10_heat 25 = .ok (.ireturn, 1) := by decide +kernel
theorem dX10_heat_26 : decode cX10_heat 26 = .ok (.iload_n 2, 1) := by decide +kernel
theorem dX10_heat_27 : decode cX10_heat 27 = .ok (.aload_n 0, 1) := by decide +kernel
theorem dX10_heat_28 : decode cX10_heat 28 = .ok (.getfield 30, 3) := by decide +kernel
theorem dX10_heat_31 : decode cX10_heat 31 = .ok (.getfield 134, 3) := by decide +kernel
theorem dX10_heat_34 : decode cX10_heat 34 = .ok (.if_icmp .le 10, 3) := by decide +kernel
theorem dX10_heat_37 : decode cX10_heat 37 = .ok (.aload_n 0, 1) := by decide +kernel
theorem dX10_heat_38 : decode cX10_heat 38 = .ok (.bipush (-6), 2) := by decide +kernel
theorem dX10_heat_40 : decode cX10_heat 40 = .ok (.invokevirtual 91, 3) := by decide +kernel
theorem dX10_heat_43 : decode cX10_heat 43 = .ok (.ireturn, 1) := by decide +kernel
theorem dX10_heat_44 : decode cX10_heat 44 = .ok (.aload_n 0, 1) := by decide +kernel
theorem dX10_heat_45 : decode cX10_heat 45 = .ok (.getfield 30, 3) := by decide +kernel
theorem dX10_heat_48 : decode cX10_heat 48 = .ok (.iload_n 2, 1) := by decide +kernel
theorem dX10_heat_49 : decode cX10_heat 49 = .ok (.invokevirtual 144, 3) := by decide +kernel
theorem dX10_heat_52 : decode cX10_heat 52 = .ok (.aload_n 0, 1) := by decide +kernel
theorem dX10_heat_53 : decode cX10_heat 53 = .ok (.getfield 30, 3) := by decide +kernel
theorem dX10_heat_56 : decode cX10_heat 56 = .ok (.getfield 150, 3) := by decide +kernel
theorem dX10_heat_59 : decode cX10_heat 59 = .ok (.iload_n 1, 1) := by decide +kernel
theorem dX10_heat_60 : decode cX10_heat 60 = .ok (.iaload, 1) := by decide +kernel
theorem dX10_heat_61 : decode cX10_heat 61 = .ok (.ireturn, 1) := by decide +kernel
theorem dX10_stack_0 : decode cX10_stack 0 = .ok (.iload_n 1, 1) := by decide +kernel
theorem dX10_stack_1 : decode cX10_stack 1 = .ok (.aload_n 0, 1) := by decide +kernel
theorem dX10_stack_2 : decode cX10_stack 2 = .ok (.getfield 23, 3) := by decide +kernel
theorem dX10_stack_5 : decode cX10_stack 5 = .ok (.getfield 118, 3) := by decide +kernel
theorem dX10_stack_8 : decode cX10_stack 8 = .ok (.invokestatic 87, 3) := by decide +kernel
theorem dX10_stack_11 : decode cX10_stack 11 = .ok (.ifCond .eq 12, 3) := by decide +kernel
theorem dX10_stack_14 : decode cX10_stack 14 = .ok (.iload_n 2, 1) := by decide +kernel
theorem dX10_stack_15 : decode cX10_stack 15 = .ok (.bipush 12, 2) := by decide +kernel
theorem dX10_stack_17 : decode cX10_stack 17 = .ok (.invokestatic 87, 3) := by decide +kernel
theorem dX10_stack_20 : decode cX10_stack 20 = .ok (.ifCond .ne 9, 3) := by decide +kernel
theorem dX10_stack_23 : decode cX10_stack 23 = .ok (.aload_n 0, 1) := by decide +kernel
theorem dX10_stack_24 : decode cX10_stack 24 = .ok (.iconst (-1), 1) := by decide +kernel
theorem dX10_stack_25 : decode cX10_stack 25 = .ok (.invokevirtual 91, 3) := by decide +kernel
theorem dX10_stack_28 : decode cX10_stack 28 = .ok (.ireturn, 1) := by decide +kernel
theorem dX10_stack_29 : decode cX10_stack 29 = .ok (.aload_n 0, 1) := by decide +kernel
theorem dX10_stack_30 : decode cX10_stack 30 = .ok (.iload_n 1, 1) := by decide +kernel
theorem dX10_stack_31 : decode cX10_stack 31 = .ok (.invokevirtual 153, 3) := by decide +kernel
theorem dX10_stack_34 : decode cX10_stack 34 = .ok (.ifCond .eq 17, 3) := by decide +kernel
theorem dX10_stack_37 : decode cX10_stack 37 = .ok (.aload_n 0, 1) := by decide +kernel
theorem dX10_stack_38 : decode cX10_stack 38 = .ok (.getfield 30, 3) := by decide +kernel
theorem dX10_stack_41 : decode cX10_stack 41 = .ok (.getfield 157, 3) := by decide +kernel
theorem dX10_stack_44 : decode cX10_stack 44 = .ok (.iload_n 2, 1) := by decide +kernel
theorem dX10_stack_45 : decode cX10_stack 45 = .ok (.iaload, 1) := by decide +kernel
theorem dX10_stack_46 : decode cX10_stack 46 = .ok (.bipush (-9), 2) := by decide +kernel
theorem dX10_stack_48 : decode cX10_stack 48 = .ok (.if_icmp .eq 10, 3) := by decide +kernel
theorem dX10_stack_51 : decode cX10_stack 51 = .ok (.aload_n 0, 1) := by decide +kernel
theorem dX10_stack_52 : decode cX10_stack 52 = .ok (.bipush (-3), 2) := by decide +kernel
theorem dX10_stack_54 : decode cX10_stack 54 = .ok (.invokevirtual 91, 3) := by decide +kernel
theorem dX10_stack_57 : decode cX10_stack 57 = .ok (.ireturn, 1) := by decide +kernel
theorem dX10_stack_58 : decode cX10_stack 58 = .ok (.aload_n 0, 1) := by decide +kernel
theorem dX10_stack_59 : decode cX10_stack 59 = .ok (.iload_n 1, 1) := by decide +kernel
theorem dX10_stack_60 : decode cX10_stack 60 = .ok (.iload_n 2, 1) := by decide +kernel
theorem dX10_stack_61 : decode cX10_stack 61 = .ok (.invokevirtual 160, 3) := by decide +kernel
theorem dX10_stack_64 : decode cX10_stack 64 = .ok (.iconst 1, 1) := by decide +kernel
theorem dX10_stack_65 : decode cX10_stack 65 = .ok (.ireturn, 1) := by decide +kernel
theorem dX10_unstack_0 : decode cX10_unstack 0 = .ok (.iload_n 1, 1) := by decide +kernel
theorem dX10_unstack_1 : decode cX10_unstack 1 = .ok (.bipush 12, 2) := by decide +kernel
theorem dX10_unstack_3 : decode cX10_unstack 3 = .ok (.invokestatic 87, 3) := by decide +kernel
theorem dX10_unstack_6 : decode cX10_unstack 6 = .ok (.ifCond .ne 9, 3) := by decide +kernel
theorem dX10_unstack_9 : decode cX10_unstack 9 = .ok (.aload_n 0, 1) := by decide +kernel
theorem dX10_unstack_10 : decode cX10_unstack 10 = .ok (.iconst (-1), 1) := by decide +kernel
theorem dX10_unstack_11 : decode cX10_unstack 11 = .ok (.invokevirtual 91, 3) := by decide +kernel
theorem dX10_unstack_14 : decode cX10_unstack 14 = .ok (.ireturn, 1) := by decide +kernel
theorem dX10_unstack_15 : decode cX10_unstack 15 = .ok (.aload_n 0, 1) := by decide +kernel
theorem dX10_unstack_16 : decode cX10_unstack 16 = .ok (.getfield 30, 3) := by decide +kernel
theorem dX10_unstack_19 : decode cX10_unstack 19 = .ok (.getfield 157, 3) := by decide +kernel
theorem dX10_unstack_22 : decode cX10_unstack 22 = .ok (.iload_n 1, 1) := by decide +kernel
theorem dX10_unstack_23 : decode cX10_unstack 23 = .ok (.iaload, 1) := by decide +kernel
theorem dX10_unstack_24 : decode cX10_unstack 24 = .ok (.istore_n 2, 1) := by decide +kernel
theorem dX10_unstack_25 : decode cX10_unstack 25 = .ok (.iload_n 2, 1) := by decide +kernel
theorem dX10_unstack_26 : decode cX10_unstack 26 = .ok (.aload_n 0, 1) := by decide +kernel
theorem dX10_unstack_27 : decode cX10_unstack 27 = .ok (.getfield 23, 3) := by decide +kernel
theorem dX10_unstack_30 : decode cX10_unstack 30 = .ok (.getfield 118, 3) := by decide +kernel
theorem dX10_unstack_33 : decode cX10_unstack 33 = .ok (.invokestatic 87, 3) := by decide +kernel
theorem dX10_unstack_36 : decode cX10_unstack 36 = .ok (.ifCond .ne 10, 3) := by decide +kernel
theorem dX10_unstack_39 : decode cX10_unstack 39 = .ok (.aload_n 0, 1) := by decide +kernel
theorem dX10_unstack_40 : decode cX10_unstack 40 = .ok (.bipush (-3), 2) := by decide +kernel
theorem dX10_unstack_42 : decode cX10_unstack 42 = .ok (.invokevirtual 91, 3) := by decide +kernel
theorem dX10_unstack_45 : decode cX10_unstack 45 = .ok (.ireturn, 1) := by decide +kernel
theorem dX10_unstack_46 : decode cX10_unstack 46 = .ok (.aload_n 0, 1) := by decide +kernel
theorem dX10_unstack_47 : decode cX10_unstack 47 = .ok (.iload_n 2, 1) := by decide +kernel
theorem dX10_unstack_48 : decode cX10_unstack 48 = .ok (.iload_n 1, 1) := by decide +kernel
theorem dX10_unstack_49 : decode cX10_unstack 49 = .ok (.invokevirtual 164, 3) := by decide +kernel
theorem dX10_unstack_52 : decode cX10_unstack 52 = .ok (.iload_n 2, 1) := by decide +kernel
theorem dX10_unstack_53 : decode cX10_unstack 53 = .ok (.ireturn, 1) := by decide +kernel
theorem dX10_fire_0 : decode cX10_fire 0 = .ok (.aload_n 0, 1) := by decide +kernel
theorem dX10_fire_1 : decode cX10_fire 1 = .ok (.getfield 30, 3) := by decide +kernel
theorem dX10_fire_4 : decode cX10_fire 4 = .ok (.getfield 134, 3) := by decide +kernel
theorem dX10_fire_7 : decode cX10_fire 7 = .ok (.ifCond .ne 10, 3) := by decide +kernel
theorem dX10_fire_10 : decode cX10_fire 10 = .ok (.aload_n 0, 1) := by decide +kernel
theorem dX10_fire_11 : decode cX10_fire 11 = .ok (.bipush (-3), 2) := by decide +kernel
theorem dX10_fire_13 : decode cX10_fire 13 = .ok (.invokevirtual 91, 3) := by decide +kernel
theorem dX10_fire_16 : decode cX10_fire 16 = .ok (.ireturn, 1) := by decide +kernel
theorem dX10_fire_17 : decode cX10_fire 17 = .ok (.aload_n 0, 1) := by decide +kernel
theorem dX10_fire_18 : decode cX10_fire 18 = .ok (.getfield 83, 3) := by decide +kernel
theorem dX10_fire_21 : decode cX10_fire 21 = .ok (.sipush 3998, 3) := by decide +kernel
theorem dX10_fire_24 : decode cX10_fire 24 = .ok (.if_icmp .le 10, 3) := by decide +kernel
theorem dX10_fire_27 : decode cX10_fire 27 = .ok (.aload_n 0, 1) := by decide +kernel
theorem dX10_fire_28 : decode cX10_fire 28 = .ok (.bipush (-6), 2) := by decide +kernel
theorem dX10_fire_30 : decode cX10_fire 30 = .ok (.invokevirtual 91, 3) := by decide +kernel
theorem dX10_fire_33 : decode cX10_fire 33 = .ok (.ireturn, 1) := by decide +kernel
theorem dX10_fire_34 : decode cX10_fire 34 = .ok (.aload_n 0, 1) := by decide +kernel
theorem dX10_fire_35 : decode cX10_fire 35 = .ok (.getfield 30, 3) := by decide +kernel
theorem dX10_fire_38 : decode cX10_fire 38 = .ok (.aload_n 0, 1) := by decide +kernel
theorem dX10_fire_39 : decode cX10_fire 39 = .ok (.getfield 30, 3) := by decide +kernel
theorem dX10_fire_42 : decode cX10_fire 42 = .ok (.getfield 134, 3) := by decide +kernel
theorem dX10_fire_45 : decode cX10_fire 45 = .ok (.invokevirtual 144, 3) := by decide +kernel
theorem dX10_fire_48 : decode cX10_fire 48 = .ok (.iconst 0, 1) := by decide +kernel
theorem dX10_fire_49 : decode cX10_fire 49 = .ok (.istore_n 1, 1) := by decide +kernel
theorem dX10_fire_50 : decode cX10_fire 50 = .ok (.iconst 0, 1) := by decide +kernel
theorem dX10_fire_51 : decode cX10_fire 51 = .ok (.istore_n 2, 1) := by decide +kernel
theorem dX10_fire_52 : decode cX10_fire 52 = .ok (.iload_n 2, 1) := by decide +kernel
theorem dX10_fire_53 : decode cX10_fire 53 = .ok (.bipush 12, 2) := by decide +kernel
theorem dX10_fire_55 : decode cX10_fire 55 = .ok (.if_icmp .ge 71, 3) := by decide +kernel
theorem dX10_fire_58 : decode cX10_fire 58 = .ok (.aload_n 0, 1) := by decide +kernel
theorem dX10_fire_59 : decode cX10_fire 59 = .ok (.getfield 30, 3) := by decide +kernel
theorem dX10_fire_62 : decode cX10_fire 62 = .ok (.getfield 157, 3) := by decide +kernel
theorem dX10_fire_65 : decode cX10_fire 65 = .ok (.iload_n 2, 1) := by decide +kernel
theorem dX10_fire_66 : decode cX10_fire 66 = .ok (.iaload, 1) := by decide +kernel
theorem dX10_fire_67 : decode cX10_fire 67 = .ok (.istore_n 3, 1) := by decide +kernel
theorem dX10_fire_68 : decode cX10_fire 68 = .ok (.iload_n 3, 1) := by decide +kernel
theorem dX10_fire_69 : decode cX10_fire 69 = .ok (.aload_n 0, 1) := by decide +kernel
theorem dX10_fire_70 : decode cX10_fire 70 = .ok (.getfield 23, 3) := by decide +kernel
theorem dX10_fire_73 : decode cX10_fire 73 = .ok (.getfield 118, 3) := by decide +kernel
theorem dX10_fire_76 : decode cX10_fire 76 = .ok (.invokestatic 87, 3) := by decide +kernel
theorem dX10_fire_79 : decode cX10_fire 79 = .ok (.ifCond .eq 41, 3) := by decide +kernel
theorem dX10_fire_82 : decode cX10_fire 82 = .ok (.aload_n 0, 1) := by decide +kernel
theorem dX10_fire_83 : decode cX10_fire 83 = .ok (.iload_n 3, 1) := by decide +kernel
theorem dX10_fire_84 : decode cX10_fire 84 = .ok (.iload_n 2, 1) := by decide +kernel
theorem dX10_fire_85 : decode cX10_fire 85 = .ok (.invokevirtual 164, 3) := by decide +kernel
theorem dX10_fire_88 : decode cX10_fire 88 = .ok (.iload_n 1, 1) := by decide +kernel
theorem dX10_fire_89 : decode cX10_fire 89 = .ok (.aload_n 0, 1) := by decide +kernel
theorem dX10_fire_90 : decode cX10_fire 90 = .ok (.getfield 23, 3) := by decide +kernel
theorem dX10_fire_93 : decode cX10_fire 93 = .ok (.iload_n 3, 1) := by decide +kernel
theorem dX10_fire_94 : decode cX10_fire 94 = .ok (.aload_n 0, 1) := by decide +kernel
theorem dX10_fire_95 : decode cX10_fire 95 = .ok (.getfield 30, 3) := by decide +kernel
theorem dX10_fire_98 : decode cX10_fire 98 = .ok (.getfield 147, 3) := by decide +kernel
theorem dX10_fire_101 : decode cX10_fire 101 = .ok (.iload_n 2, 1) := by decide +kernel
theorem dX10_fire_102 : decode cX10_fire 102 = .ok (.iaload, 1) := by decide +kernel
theorem dX10_fire_103 : decode cX10_fire 103 = .ok (.aload_n 0, 1) := by decide +kernel
theorem dX10_fire_104 : decode cX10_fire 104 = .ok (.getfield 16, 3) := by decide +kernel
theorem dX10_fire_107 : decode cX10_fire 107 = .ok (.invokevirtual 167, 3) := by decide +kernel
theorem dX10_fire_110 : decode cX10_fire 110 = .ok (.ifCond .eq 7, 3) := by decide +kernel
theorem dX10_fire_113 : decode cX10_fire 113 = .ok (.iconst 1, 1) := by decide +kernel
theorem dX10_fire_114 : decode cX10_fire 114 = .ok (.goto 4, 3) := by decide +kernel
theorem dX10_fire_117 : decode cX10_fire 117 = .ok (.iconst 0, 1) := by decide +kernel
theorem dX10_fire_118 : decode cX10_fire 118 = .ok (.iadd, 1) := by decide +kernel
theorem dX10_fire_119 : decode cX10_fire 119 = .ok (.istore_n 1, 1) := by decide +kernel
theorem dX10_fire_120 : decode cX10_fire 120 = .ok (.iinc 2 1, 3) := by decide +kernel
theorem dX10_fire_123 : decode cX10_fire 123 = .ok (.goto (-71), 3) := by decide +kernel
theorem dX10_fire_126 : decode cX10_fire 126 = .ok (.aload_n 0, 1) := by decide +kernel
theorem dX10_fire_127 : decode cX10_fire 127 = .ok (.getfield 30, 3) := by decide +kernel
theorem dX10_fire_130 : decode cX10_fire 130 = .ok (.invokevirtual 171, 3) := by decide +kernel
theorem dX10_fire_133 : decode cX10_fire 133 = .ok (.aload_n 0, 1) := by decide +kernel
theorem dX10_fire_134 : decode cX10_fire 134 = .ok (.iconst 2, 1) := by decide +kernel
theorem dX10_fire_135 : decode cX10_fire 135 = .ok (.invokevirtual 108, 3) := by decide +kernel
theorem dX10_fire_138 : decode cX10_fire 138 = .ok (.iload_n 1, 1) := by decide +kernel
theorem dX10_fire_139 : decode cX10_fire 139 = .ok (.ireturn, 1) := by decide +kernel
theorem dX10_want_0 : decode cX10_want 0 = .ok (.iload_n 1, 1) := by decide +kernel
theorem dX10_want_1 : decode cX10_want 1 = .ok (.aload_n 0, 1) := by decide +kernel
theorem dX10_want_2 : decode cX10_want 2 = .ok (.getfield 23, 3) := by decide +kernel
theorem dX10_want_5 : decode cX10_want 5 = .ok (.getfield 118, 3) := by decide +kernel
theorem dX10_want_8 : decode cX10_want 8 = .ok (.invokestatic 87, 3) := by decide +kernel
theorem dX10_want_11 : decode cX10_want 11 = .ok (.ifCond .ne 9, 3) := by decide +kernel
theorem dX10_want_14 : decode cX10_want 14 = .ok (.aload_n 0, 1) := by decide +kernel
theorem dX10_want_15 : decode cX10_want 15 = .ok (.iconst (-1), 1) := by decide +kernel
theorem dX10_want_16 : decode cX10_want 16 = .ok (.invokevirtual 91, 3) := by decide +kernel
theorem dX10_want_19 : decode cX10_want 19 = .ok (.ireturn, 1) := by decide +kernel
theorem dX10_want_20 : decode cX10_want 20 = .ok (.aload_n 0, 1) := by decide +kernel
theorem dX10_want_21 : decode cX10_want 21 = .ok (.iload_n 1, 1) := by decide +kernel
theorem dX10_want_22 : decode cX10_want 22 = .ok (.invokevirtual 153, 3) := by decide +kernel
theorem dX10_want_25 : decode cX10_want 25 = .ok (.ifCond .ne 10, 3) := by decide +kernel
theorem dX10_want_28 : decode cX10_want 28 = .ok (.aload_n 0, 1) := by decide +kernel
theorem dX10_want_29 : decode cX10_want 29 = .ok (.bipush (-3), 2) := by decide +kernel
theorem dX10_want_31 : decode cX10_want 31 = .ok (.invokevirtual 91, 3) := by decide +kernel
theorem dX10_want_34 : decode cX10_want 34 = .ok (.ireturn, 1) := by decide +kernel
theorem dX10_want_35 : decode cX10_want 35 = .ok (.iload_n 2, 1) := by decide +kernel
theorem dX10_want_36 : decode cX10_want 36 = .ok (.iconst 1, 1) := by decide +kernel
theorem dX10_want_37 : decode cX10_want 37 = .ok (.if_icmp .ge 10, 3) := by decide +kernel
theorem dX10_want_40 : decode cX10_want 40 = .ok (.aload_n 0, 1) := by decide +kernel
theorem dX10_want_41 : decode cX10_want 41 = .ok (.bipush (-4), 2) := by decide +kernel
theorem dX10_want_43 : decode cX10_want 43 = .ok (.invokevirtual 91, 3) := by decide +kernel
theorem dX10_want_46 : decode cX10_want 46 = .ok (.ireturn, 1) := by decide +kernel
theorem dX10_want_47 : decode cX10_want 47 = .ok (.iload_n 2, 1) := by decide +kernel
theorem dX10_want_48 : decode cX10_want 48 = .ok (.sipush 999, 3) := by decide +kernel
theorem dX10_want_51 : decode cX10_want 51 = .ok (.if_icmp .gt 15, 3) := by decide +kernel
theorem dX10_want_54 : decode cX10_want 54 = .ok (.aload_n 0, 1) := by decide +kernel
theorem dX10_want_55 : decode cX10_want 55 = .ok (.getfield 37, 3) := by decide +kernel
theorem dX10_want_58 : decode cX10_want 58 = .ok (.getfield 174, 3) := by decide +kernel
theorem dX10_want_61 : decode cX10_want 61 = .ok (.bipush 8, 2) := by decide +kernel
theorem dX10_want_63 : decode cX10_want 63 = .ok (.if_icmp .lt 10, 3) := by decide +kernel
theorem dX10_want_66 : decode cX10_want 66 = .ok (.aload_n 0, 1) := by decide +kernel
theorem dX10_want_67 : decode cX10_want 67 = .ok (.bipush (-6), 2) := by decide +kernel
theorem dX10_want_69 : decode cX10_want 69 = .ok (.invokevirtual 91, 3) := by decide +kernel
theorem dX10_want_72 : decode cX10_want 72 = .ok (.ireturn, 1) := by decide +kernel
theorem dX10_want_73 : decode cX10_want 73 = .ok (.aload_n 0, 1) := by decide +kernel
theorem dX10_want_74 : decode cX10_want 74 = .ok (.getfield 37, 3) := by decide +kernel
theorem dX10_want_77 : decode cX10_want 77 = .ok (.iload_n 1, 1) := by decide +kernel
theorem dX10_want_78 : decode cX10_want 78 = .ok (.iload_n 2, 1) := by decide +kernel
theorem dX10_want_79 : decode cX10_want 79 = .ok (.invokevirtual 177, 3) := by decide +kernel
theorem dX10_want_82 : decode cX10_want 82 = .ok (.ireturn, 1) := by decide +kernel
theorem dX10_best_0 : decode cX10_best 0 = .ok (.aload_n 0, 1) := by decide +kernel
theorem dX10_best_1 : decode cX10_best 1 = .ok (.invokevirtual 181, 3) := by decide +kernel
theorem dX10_best_4 : decode cX10_best 4 = .ok (.aload_n 0, 1) := by decide +kernel
theorem dX10_best_5 : decode cX10_best 5 = .ok (.getfield 37, 3) := by decide +kernel
theorem dX10_best_8 : decode cX10_best 8 = .ok (.invokevirtual 184, 3) := by decide +kernel
theorem dX10_best_11 : decode cX10_best 11 = .ok (.ireturn, 1) := by decide +kernel
theorem dX10_bestPlace_0 : decode cX10_bestPlace 0 = .ok (.iload_n 1, 1) := by decide +kernel
theorem dX10_bestPlace_1 : decode cX10_bestPlace 1 = .ok (.aload_n 0, 1) := by decide +kernel
theorem dX10_bestPlace_2 : decode cX10_bestPlace 2 = .ok (.getfield 37, 3) := by decide +kernel
theorem dX10_bestPlace_5 : decode cX10_bestPlace 5 = .ok (.getfield 174, 3) := by decide +kernel
theorem dX10_bestPlace_8 : decode cX10_bestPlace 8 = .ok (.invokestatic 87, 3) := by decide +kernel
theorem dX10_bestPlace_11 : decode cX10_bestPlace 11 = .ok (.ifCond .ne 9, 3) := by decide +kernel
theorem dX10_bestPlace_14 : decode cX10_bestPlace 14 = .ok (.aload_n 0, 1) := by decide +kernel
theorem dX10_bestPlace_15 : decode cX10_bestPlace 15 = .ok (.iconst (-1), 1) := by decide +kernel
theorem dX10_bestPlace_16 : decode cX10_bestPlace 16 = .ok (.invokevirtual 91, 3) := by decide +kernel
theorem dX10_bestPlace_19 : decode cX10_bestPlace 19 = .ok (.ireturn, 1) := by decide +kernel
theorem dX10_bestPlace_20 : decode cX10_bestPlace 20 = .ok (.aload_n 0, 1) := by decide +kernel
theorem dX10_bestPlace_21 : decode cX10_bestPlace 21 = .ok (.invokevirtual 181, 3) := by decide +kernel
theorem dX10_bestPlace_24 : decode cX10_bestPlace 24 = .ok (.aload_n 0, 1) := by decide +kernel
theorem dX10_bestPlace_25 : decode cX10_bestPlace 25 = .ok (.getfield 37, 3) := by decide +kernel
theorem dX10_bestPlace_28 : decode cX10_bestPlace 28 = .ok (.invokevirtual 187, 3) := by decide +kernel
theorem dX10_bestPlace_31 : decode cX10_bestPlace 31 = .ok (.aload_n 0, 1) := by decide +kernel
theorem dX10_bestPlace_32 : decode cX10_bestPlace 32 = .ok (.getfield 37, 3) := by decide +kernel
theorem dX10_bestPlace_35 : decode cX10_bestPlace 35 = .ok (.getfield 190, 3) := by decide +kernel
theorem dX10_bestPlace_38 : decode cX10_bestPlace 38 = .ok (.iload_n 1, 1) := by decide +kernel
theorem dX10_bestPlace_39 : decode cX10_bestPlace 39 = .ok (.iaload, 1) := by decide +kernel
theorem dX10_bestPlace_40 : decode cX10_bestPlace 40 = .ok (.ireturn, 1) := by decide +kernel
theorem dX10_lay_0 : decode cX10_lay 0 = .ok (.aload_n 0, 1) := by decide +kernel
theorem dX10_lay_1 : decode cX10_lay 1 = .ok (.invokevirtual 181, 3) := by decide +kernel
theorem dX10_lay_4 : decode cX10_lay 4 = .ok (.aload_n 0, 1) := by decide +kernel
theorem dX10_lay_5 : decode cX10_lay 5 = .ok (.getfield 37, 3) := by decide +kernel
theorem dX10_lay_8 : decode cX10_lay 8 = .ok (.invokevirtual 187, 3) := by decide +kernel
theorem dX10_lay_11 : decode cX10_lay 11 = .ok (.iconst 0, 1) := by decide +kernel
theorem dX10_lay_12 : decode cX10_lay 12 = .ok (.istore_n 1, 1) := by decide +kernel
theorem dX10_lay_13 : decode cX10_lay 13 = .ok (.iconst 0, 1) := by decide +kernel
theorem dX10_lay_14 : decode cX10_lay 14 = .ok (.istore_n 2, 1) := by decide +kernel
theorem dX10_lay_15 : decode cX10_lay 15 = .ok (.iload_n 2, 1) := by decide +kernel
theorem dX10_lay_16 : decode cX10_lay 16 = .ok (.aload_n 0, 1) := by decide +kernel
theorem dX10_lay_17 : decode cX10_lay 17 = .ok (.getfield 37, 3) := by decide +kernel
theorem dX10_lay_20 : decode cX10_lay 20 = .ok (.getfield 174, 3) := by decide +kernel
theorem dX10_lay_23 : decode cX10_lay 23 = .ok (.if_icmp .ge 45, 3) := by decide +kernel
theorem dX10_lay_26 : decode cX10_lay 26 = .ok (.aload_n 0, 1) := by decide +kernel
theorem dX10_lay_27 : decode cX10_lay 27 = .ok (.getfield 37, 3) := by decide +kernel
theorem dX10_lay_30 : decode cX10_lay 30 = .ok (.getfield 190, 3) := by decide +kernel
theorem dX10_lay_33 : decode cX10_lay 33 = .ok (.iload_n 2, 1) := by decide +kernel
theorem dX10_lay_34 : decode cX10_lay 34 = .ok (.iaload, 1) := by decide +kernel
theorem dX10_lay_35 : decode cX10_lay 35 = .ok (.istore_n 3, 1) := by decide +kernel
theorem dX10_lay_36 : decode cX10_lay 36 = .ok (.iload_n 3, 1) := by decide +kernel
theorem dX10_lay_37 : decode cX10_lay 37 = .ok (.bipush 12, 2) := by decide +kernel
theorem dX10_lay_39 : decode cX10_lay 39 = .ok (.invokestatic 87, 3) := by decide +kernel
theorem dX10_lay_42 : decode cX10_lay 42 = .ok (.ifCond .eq 20, 3) := by decide +kernel
theorem dX10_lay_45 : decode cX10_lay 45 = .ok (.aload_n 0, 1) := by decide +kernel
theorem dX10_lay_46 : decode cX10_lay 46 = .ok (.aload_n 0, 1) := by decide +kernel
theorem dX10_lay_47 : decode cX10_lay 47 = .ok (.getfield 37, 3) := by decide +kernel
theorem dX10_lay_50 : decode cX10_lay 50 = .ok (.getfield 193, 3) := by decide +kernel
theorem dX10_lay_53 : decode cX10_lay 53 = .ok (.iload_n 2, 1) := by decide +kernel
theorem dX10_lay_54 : decode cX10_lay 54 = .ok (.iaload, 1) := by decide +kernel
theorem dX10_lay_55 : decode cX10_lay 55 = .ok (.iload_n 3, 1) := by decide +kernel
theorem dX10_lay_56 : decode cX10_lay 56 = .ok (.invokevirtual 160, 3) := by decide +kernel
theorem dX10_lay_59 : decode cX10_lay 59 = .ok (.iinc 1 1, 3) := by decide +kernel
theorem dX10_lay_62 : decode cX10_lay 62 = .ok (.iinc 2 1, 3) := by decide +kernel
theorem dX10_lay_65 : decode cX10_lay 65 = .ok (.goto (-50), 3) := by decide +kernel
theorem dX10_lay_68 : decode cX10_lay 68 = .ok (.aload_n 0, 1) := by decide +kernel
theorem dX10_lay_69 : decode cX10_lay 69 = .ok (.getfield 37, 3) := by decide +kernel
theorem dX10_lay_72 : decode cX10_lay 72 = .ok (.invokevirtual 196, 3) := by decide +kernel
theorem dX10_lay_75 : decode cX10_lay 75 = .ok (.iload_n 1, 1) := by decide +kernel
theorem dX10_lay_76 : decode cX10_lay 76 = .ok (.ireturn, 1) := by decide +kernel
theorem dX10_colour_0 : decode cX10_colour 0 = .ok (.iload_n 1, 1) := by decide +kernel
theorem dX10_colour_1 : decode cX10_colour 1 = .ok (.bipush 12, 2) := by decide +kernel
theorem dX10_colour_3 : decode cX10_colour 3 = .ok (.invokestatic 87, 3) := by decide +kernel
theorem dX10_colour_6 : decode cX10_colour 6 = .ok (.ifCond .ne 9, 3) := by decide +kernel
theorem dX10_colour_9 : decode cX10_colour 9 = .ok (.aload_n 0, 1) := by decide +kernel
theorem dX10_colour_10 : decode cX10_colour 10 = .ok (.iconst (-1), 1) := by decide +kernel
theorem dX10_colour_11 : decode cX10_colour 11 = .ok (.invokevirtual 91, 3) := by decide +kernel
theorem dX10_colour_14 : decode cX10_colour 14 = .ok (.ireturn, 1) := by decide +kernel
theorem dX10_colour_15 : decode cX10_colour 15 = .ok (.iload_n 2, 1) := by decide +kernel
theorem dX10_colour_16 : decode cX10_colour 16 = .ok (.ifCond .lt 8, 3) := by decide +kernel
theorem dX10_colour_19 : decode cX10_colour 19 = .ok (.iload_n 3, 1) := by decide +kernel
theorem dX10_colour_20 : decode cX10_colour 20 = .ok (.iload_n 2, 1) := by decide +kernel
theorem dX10_colour_21 : decode cX10_colour 21 = .ok (.if_icmp .ge 10, 3) := by decide +kernel
theorem dX10_colour_24 : decode cX10_colour 24 = .ok (.aload_n 0, 1) := by decide +kernel
theorem dX10_colour_25 : decode cX10_colour 25 = .ok (.bipush (-4), 2) := by decide +kernel
theorem dX10_colour_27 : decode cX10_colour 27 = .ok (.invokevirtual 91, 3) := by decide +kernel
theorem dX10_colour_30 : decode cX10_colour 30 = .ok (.ireturn, 1) := by decide +kernel
theorem dX10_colour_31 : decode cX10_colour 31 = .ok (.iload_n 3, 1) := by decide +kernel
theorem dX10_colour_32 : decode cX10_colour 32 = .ok (.sipush 1000, 3) := by decide +kernel
theorem dX10_colour_35 : decode cX10_colour 35 = .ok (.if_icmp .le 10, 3) := by decide +kernel
theorem dX10_colour_38 : decode cX10_colour 38 = .ok (.aload_n 0, 1) := by decide +kernel
theorem dX10_colour_39 : decode cX10_colour 39 = .ok (.bipush (-6), 2) := by decide +kernel
theorem dX10_colour_41 : decode cX10_colour 41 = .ok (.invokevirtual 91, 3) := by decide +kernel
theorem dX10_colour_44 : decode cX10_colour 44 = .ok (.ireturn, 1) := by decide +kernel
theorem dX10_colour_45 : decode cX10_colour 45 = .ok (.aload_n 0, 1) := by decide +kernel
theorem dX10_colour_46 : decode cX10_colour 46 = .ok (.getfield 44, 3) := by decide +kernel
theorem dX10_colour_49 : decode cX10_colour 49 = .ok (.getfield 199, 3) := by decide +kernel
theorem dX10_colour_52 : decode cX10_colour 52 = .ok (.iload_n 1, 1) := by decide +kernel
theorem dX10_colour_53 : decode cX10_colour 53 = .ok (.iload_n 2, 1) := by decide +kernel
theorem dX10_colour_54 : decode cX10_colour 54 = .ok (.iastore, 1) := by decide +kernel
theorem dX10_colour_55 : decode cX10_colour 55 = .ok (.aload_n 0, 1) := by decide +kernel
theorem dX10_colour_56 : decode cX10_colour 56 = .ok (.getfield 44, 3) := by decide +kernel
theorem dX10_colour_59 : decode cX10_colour 59 = .ok (.getfield 202, 3) := by decide +kernel
theorem dX10_colour_62 : decode cX10_colour 62 = .ok (.iload_n 1, 1) := by decide +kernel
theorem dX10_colour_63 : decode cX10_colour 63 = .ok (.iload_n 3, 1) := by decide +kernel
theorem dX10_colour_64 : decode cX10_colour 64 = .ok (.iastore, 1) := by decide +kernel
theorem dX10_colour_65 : decode cX10_colour 65 = .ok (.iconst 1, 1) := by decide +kernel
theorem dX10_colour_66 : decode cX10_colour 66 = .ok (.ireturn, 1) := by decide +kernel
theorem dX10_fires_0 : decode cX10_fires 0 = .ok (.iload_n 1, 1) := by decide +kernel
theorem dX10_fires_1 : decode cX10_fires 1 = .ok (.invokestatic 205, 3) := by decide +kernel
theorem dX10_fires_4 : decode cX10_fires 4 = .ok (.ifCond .ne 9, 3) := by decide +kernel
theorem dX10_fires_7 : decode cX10_fires 7 = .ok (.aload_n 0, 1) := by decide +kernel
theorem dX10_fires_8 : decode cX10_fires 8 = .ok (.iconst (-1), 1) := by decide +kernel
theorem dX10_fires_9 : decode cX10_fires 9 = .ok (.invokevirtual 91, 3) := by decide +kernel
theorem dX10_fires_12 : decode cX10_fires 12 = .ok (.ireturn, 1) := by decide +kernel
theorem dX10_fires_13 : decode cX10_fires 13 = .ok (.aload_n 0, 1) := by decide +kernel
theorem dX10_fires_14 : decode cX10_fires 14 = .ok (.getfield 44, 3) := by decide +kernel
theorem dX10_fires_17 : decode cX10_fires 17 = .ok (.iload_n 1, 1) := by decide +kernel
theorem dX10_fires_18 : decode cX10_fires 18 = .ok (.invokevirtual 208, 3) := by decide +kernel
theorem dX10_fires_21 : decode cX10_fires 21 = .ok (.ireturn, 1) := by decide +kernel
theorem dX10_fireHeat_0 : decode cX10_fireHeat 0 = .ok (.iload_n 1, 1) := by decide +kernel
theorem dX10_fireHeat_1 : decode cX10_fireHeat 1 = .ok (.invokestatic 205, 3) := by decide +kernel
theorem dX10_fireHeat_4 : decode cX10_fireHeat 4 = .ok (.ifCond .eq 18, 3) := by decide +kernel
theorem dX10_fireHeat_7 : decode cX10_fireHeat 7 = .ok (.iload_n 2, 1) := by decide +kernel
theorem dX10_fireHeat_8 : decode cX10_fireHeat 8 = .ok (.aload_n 0, 1) := by decide +kernel
theorem dX10_fireHeat_9 : decode cX10_fireHeat 9 = .ok (.getfield 44, 3) := by decide +kernel
theorem dX10_fireHeat_12 : decode cX10_fireHeat 12 = .ok (.iload_n 1, 1) := by decide +kernel
theorem dX10_fireHeat_13 : decode cX10_fireHeat 13 = .ok (.invokevirtual 208, 3) := by decide +kernel
theorem dX10_fireHeat_16 : decode cX10_fireHeat 16 = .ok (.invokestatic 87, 3) := by decide +kernel
theorem dX10_fireHeat_19 : decode cX10_fireHeat 19 = .ok (.ifCond .ne 9, 3) := by decide +kernel
theorem dX10_fireHeat_22 : decode cX10_fireHeat 22 = .ok (.aload_n 0, 1) := by decide +kernel
theorem dX10_fireHeat_23 : decode cX10_fireHeat 23 = .ok (.iconst (-1), 1) := by decide +kernel
theorem dX10_fireHeat_24 : decode cX10_fireHeat 24 = .ok (.invokevirtual 91, 3) := by decide +kernel
theorem dX10_fireHeat_27 : decode cX10_fireHeat 27 = .ok (.ireturn, 1) := by decide +kernel
theorem dX10_fireHeat_28 : decode cX10_fireHeat 28 = .ok (.aload_n 0, 1) := by decide +kernel
theorem dX10_fireHeat_29 : decode cX10_fireHeat 29 = .ok (.getfield 44, 3) := by decide +kernel
theorem dX10_fireHeat_32 : decode cX10_fireHeat 32 = .ok (.getfield 211, 3) := by decide +kernel
theorem dX10_fireHeat_35 : decode cX10_fireHeat 35 = .ok (.iload_n 2, 1) := by decide +kernel
theorem dX10_fireHeat_36 : decode cX10_fireHeat 36 = .ok (.iaload, 1) := by decide +kernel
theorem dX10_fireHeat_37 : decode cX10_fireHeat 37 = .ok (.ireturn, 1) := by decide +kernel
theorem dX10_skill_0 : decode cX10_skill 0 = .ok (.iload_n 1, 1) := by decide +kernel
theorem dX10_skill_1 : decode cX10_skill 1 = .ok (.iconst 3, 1) := by decide +kernel
theorem dX10_skill_2 : decode cX10_skill 2 = .ok (.invokestatic 87, 3) := by decide +kernel
theorem dX10_skill_5 : decode cX10_skill 5 = .ok (.ifCond .ne 9, 3) := by decide +kernel
theorem dX10_skill_8 : decode cX10_skill 8 = .ok (.aload_n 0, 1) := by decide +kernel
theorem dX10_skill_9 : decode cX10_skill 9 = .ok (.iconst (-1), 1) := by decide +kernel
theorem dX10_skill_10 : decode cX10_skill 10 = .ok (.invokevirtual 91, 3) := by decide +kernel
theorem dX10_skill_13 : decode cX10_skill 13 = .ok (.ireturn, 1) := by decide +kernel
theorem dX10_skill_14 : decode cX10_skill 14 = .ok (.iload_n 2, 1) := by decide +kernel
theorem dX10_skill_15 : decode cX10_skill 15 = .ok (.iconst 1, 1) := by decide +kernel
theorem dX10_skill_16 : decode cX10_skill 16 = .ok (.if_icmp .ge 10, 3) := by decide +kernel
theorem dX10_skill_19 : decode cX10_skill 19 = .ok (.aload_n 0, 1) := by decide +kernel
theorem dX10_skill_20 : decode cX10_skill 20 = .ok (.bipush (-4), 2) := by decide +kernel
theorem dX10_skill_22 : decode cX10_skill 22 = .ok (.invokevirtual 91, 3) := by decide +kernel
theorem dX10_skill_25 : decode cX10_skill 25 = .ok (.ireturn, 1) := by decide +kernel
theorem dX10_skill_26 : decode cX10_skill 26 = .ok (.iload_n 2, 1) := by decide +kernel
theorem dX10_skill_27 : decode cX10_skill 27 = .ok (.bipush 20, 2) := by decide +kernel
theorem dX10_skill_29 : decode cX10_skill 29 = .ok (.if_icmp .le 10, 3) := by decide +kernel
theorem dX10_skill_32 : decode cX10_skill 32 = .ok (.aload_n 0, 1) := by decide +kernel
theorem dX10_skill_33 : decode cX10_skill 33 = .ok (.bipush (-6), 2) := by decide +kernel
theorem dX10_skill_35 : decode cX10_skill 35 = .ok (.invokevirtual 91, 3) := by decide +kernel
theorem dX10_skill_38 : decode cX10_skill 38 = .ok (.ireturn, 1) := by decide +kernel
theorem dX10_skill_39 : decode cX10_skill 39 = .ok (.aload_n 0, 1) := by decide +kernel
theorem dX10_skill_40 : decode cX10_skill 40 = .ok (.getfield 51, 3) := by decide +kernel
theorem dX10_skill_43 : decode cX10_skill 43 = .ok (.iload_n 1, 1) := by decide +kernel
theorem dX10_skill_44 : decode cX10_skill 44 = .ok (.iload_n 2, 1) := by decide +kernel
theorem dX10_skill_45 : decode cX10_skill 45 = .ok (.invokevirtual 214, 3) := by decide +kernel
theorem dX10_skill_48 : decode cX10_skill 48 = .ok (.ireturn, 1) := by decide +kernel
theorem dX10_job_0 : decode cX10_job 0 = .ok (.iload_n 1, 1) := by decide +kernel
theorem dX10_job_1 : decode cX10_job 1 = .ok (.iconst 1, 1) := by decide +kernel
theorem dX10_job_2 : decode cX10_job 2 = .ok (.if_icmp .ge 10, 3) := by decide +kernel
theorem dX10_job_5 : decode cX10_job 5 = .ok (.aload_n 0, 1) := by decide +kernel
theorem dX10_job_6 : decode cX10_job 6 = .ok (.bipush (-4), 2) := by decide +kernel
theorem dX10_job_8 : decode cX10_job 8 = .ok (.invokevirtual 91, 3) := by decide +kernel
theorem dX10_job_11 : decode cX10_job 11 = .ok (.ireturn, 1) := by decide +kernel
theorem dX10_job_12 : decode cX10_job 12 = .ok (.iload_n 1, 1) := by decide +kernel
theorem dX10_job_13 : decode cX10_job 13 = .ok (.sipush 500, 3) := by decide +kernel
theorem dX10_job_16 : decode cX10_job 16 = .ok (.if_icmp .gt 15, 3) := by decide +kernel
theorem dX10_job_19 : decode cX10_job 19 = .ok (.aload_n 0, 1) := by decide +kernel
theorem dX10_job_20 : decode cX10_job 20 = .ok (.getfield 51, 3) := by decide +kernel
theorem dX10_job_23 : decode cX10_job 23 = .ok (.getfield 217, 3) := by decide +kernel
theorem dX10_job_26 : decode cX10_job 26 = .ok (.bipush 8, 2) := by decide +kernel
theorem dX10_job_28 : decode cX10_job 28 = .ok (.if_icmp .lt 10, 3) := by decide +kernel
theorem dX10_job_31 : decode cX10_job 31 = .ok (.aload_n 0, 1) := by decide +kernel
theorem dX10_job_32 : decode cX10_job 32 = .ok (.bipush (-6), 2) := by decide +kernel
theorem dX10_job_34 : decode cX10_job 34 = .ok (.invokevirtual 91, 3) := by decide +kernel
theorem dX10_job_37 : decode cX10_job 37 = .ok (.ireturn, 1) := by decide +kernel
theorem dX10_job_38 : decode cX10_job 38 = .ok (.aload_n 0, 1) := by decide +kernel
theorem dX10_job_39 : decode cX10_job 39 = .ok (.getfield 51, 3) := by decide +kernel
theorem dX10_job_42 : decode cX10_job 42 = .ok (.iload_n 1, 1) := by decide +kernel
theorem dX10_job_43 : decode cX10_job 43 = .ok (.invokevirtual 220, 3) := by decide +kernel
theorem dX10_job_46 : decode cX10_job 46 = .ok (.ireturn, 1) := by decide +kernel
theorem dX10_least_0 : decode cX10_least 0 = .ok (.aload_n 0, 1) := by decide +kernel
theorem dX10_least_1 : decode cX10_least 1 = .ok (.getfield 51, 3) := by decide +kernel
theorem dX10_least_4 : decode cX10_least 4 = .ok (.invokevirtual 223, 3) := by decide +kernel
theorem dX10_least_7 : decode cX10_least 7 = .ok (.aload_n 0, 1) := by decide +kernel
theorem dX10_least_8 : decode cX10_least 8 = .ok (.getfield 51, 3) := by decide +kernel
theorem dX10_least_11 : decode cX10_least 11 = .ok (.getfield 226, 3) := by decide +kernel
theorem dX10_least_14 : decode cX10_least 14 = .ok (.ireturn, 1) := by decide +kernel
theorem dX10_painter_0 : decode cX10_painter 0 = .ok (.iload_n 1, 1) := by decide +kernel
theorem dX10_painter_1 : decode cX10_painter 1 = .ok (.aload_n 0, 1) := by decide +kernel
theorem dX10_painter_2 : decode cX10_painter 2 = .ok (.getfield 51, 3) := by decide +kernel
theorem dX10_painter_5 : decode cX10_painter 5 = .ok (.getfield 217, 3) := by decide +kernel
theorem dX10_painter_8 : decode cX10_painter 8 = .ok (.invokestatic 87, 3) := by decide +kernel
theorem dX10_painter_11 : decode cX10_painter 11 = .ok (.ifCond .ne 6, 3) := by decide +kernel
theorem dX10_painter_14 : decode cX10_painter 14 = .ok (.bipush (-9), 2) := by decide +kernel
theorem dX10_painter_16 : decode cX10_painter 16 = .ok (.ireturn, 1) := by decide +kernel
theorem dX10_painter_17 : decode cX10_painter 17 = .ok (.aload_n 0, 1) := by decide +kernel
theorem dX10_painter_18 : decode cX10_painter 18 = .ok (.getfield 51, 3) := by decide +kernel
theorem dX10_painter_21 : decode cX10_painter 21 = .ok (.invokevirtual 223, 3) := by decide +kernel
theorem dX10_painter_24 : decode cX10_painter 24 = .ok (.aload_n 0, 1) := by decide +kernel
theorem dX10_painter_25 : decode cX10_painter 25 = .ok (.getfield 51, 3) := by decide +kernel
theorem dX10_painter_28 : decode cX10_painter 28 = .ok (.getfield 229, 3) := by decide +kernel
theorem dX10_painter_31 : decode cX10_painter 31 = .ok (.iload_n 1, 1) := by decide +kernel
theorem dX10_painter_32 : decode cX10_painter 32 = .ok (.iaload, 1) := by decide +kernel
theorem dX10_painter_33 : decode cX10_painter 33 = .ok (.ireturn, 1) := by decide +kernel
theorem dX10_paint_0 : decode cX10_paint 0 = .ok (.iload_n 1, 1) := by decide +kernel
theorem dX10_paint_1 : decode cX10_paint 1 = .ok (.aload_n 0, 1) := by decide +kernel
theorem dX10_paint_2 : decode cX10_paint 2 = .ok (.getfield 23, 3) := by decide +kernel
theorem dX10_paint_5 : decode cX10_paint 5 = .ok (.getfield 118, 3) := by decide +kernel
theorem dX10_paint_8 : decode cX10_paint 8 = .ok (.invokestatic 87, 3) := by decide +kernel
theorem dX10_paint_11 : decode cX10_paint 11 = .ok (.ifCond .ne 9, 3) := by decide +kernel
theorem dX10_paint_14 : decode cX10_paint 14 = .ok (.aload_n 0, 1) := by decide +kernel
theorem dX10_paint_15 : decode cX10_paint 15 = .ok (.iconst (-1), 1) := by decide +kernel
theorem dX10_paint_16 : decode cX10_paint 16 = .ok (.invokevirtual 91, 3) := by decide +kernel
theorem dX10_paint_19 : decode cX10_paint 19 = .ok (.ireturn, 1) := by decide +kernel
theorem dX10_paint_20 : decode cX10_paint 20 = .ok (.aload_n 0, 1) := by decide +kernel
theorem dX10_paint_21 : decode cX10_paint 21 = .ok (.getfield 23, 3) := by decide +kernel
theorem dX10_paint_24 : decode cX10_paint 24 = .ok (.getfield 232, 3) := by decide +kernel
theorem dX10_paint_27 : decode cX10_paint 27 = .ok (.iload_n 1, 1) := by decide +kernel
theorem dX10_paint_28 : decode cX10_paint 28 = .ok (.iaload, 1) := by decide +kernel
theorem dX10_paint_29 : decode cX10_paint 29 = .ok (.iconst 1, 1) := by decide +kernel
theorem dX10_paint_30 : decode cX10_paint 30 = .ok (.if_icmp .eq 10, 3) := by decide +kernel
theorem dX10_paint_33 : decode cX10_paint 33 = .ok (.aload_n 0, 1) := by decide +kernel
theorem dX10_paint_34 : decode cX10_paint 34 = .ok (.bipush (-3), 2) := by decide +kernel
theorem dX10_paint_36 : decode cX10_paint 36 = .ok (.invokevirtual 91, 3) := by decide +kernel
theorem dX10_paint_39 : decode cX10_paint 39 = .ok (.ireturn, 1) := by decide +kernel
theorem dX10_paint_40 : decode cX10_paint 40 = .ok (.aload_n 0, 1) := by decide +kernel
theorem dX10_paint_41 : decode cX10_paint 41 = .ok (.getfield 23, 3) := by decide +kernel
theorem dX10_paint_44 : decode cX10_paint 44 = .ok (.getfield 232, 3) := by decide +kernel
theorem dX10_paint_47 : decode cX10_paint 47 = .ok (.iload_n 1, 1) := by decide +kernel
theorem dX10_paint_48 : decode cX10_paint 48 = .ok (.iconst 2, 1) := by decide +kernel
theorem dX10_paint_49 : decode cX10_paint 49 = .ok (.iastore, 1) := by decide +kernel
theorem dX10_paint_50 : decode cX10_paint 50 = .ok (.iconst 1, 1) := by decide +kernel
theorem dX10_paint_51 : decode cX10_paint 51 = .ok (.ireturn, 1) := by decide +kernel
theorem dX10_service_0 : decode cX10_service 0 = .ok (.iload_n 1, 1) := by decide +kernel
theorem dX10_service_1 : decode cX10_service 1 = .ok (.iload_n 2, 1) := by decide +kernel
theorem dX10_service_2 : decode cX10_service 2 = .ok (.iload_n 3, 1) := by decide +kernel
theorem dX10_service_3 : decode cX10_service 3 = .ok (.invokestatic 235, 3) := by decide +kernel
theorem dX10_service_6 : decode cX10_service 6 = .ok (.istore 4, 2) := by decide +kernel
theorem dX10_service_8 : decode cX10_service 8 = .ok (.iload 4, 2) := by decide +kernel
theorem dX10_service_10 : decode cX10_service 10 = .ok (.ifCond .eq 10, 3) := by decide +kernel
theorem dX10_service_13 : decode cX10_service 13 = .ok (.aload_n 0, 1) := by decide +kernel
theorem dX10_service_14 : decode cX10_service 14 = .ok (.iload 4, 2) := by decide +kernel
theorem dX10_service_16 : decode cX10_service 16 = .ok (.invokevirtual 91, 3) := by decide +kernel
theorem dX10_service_19 : decode cX10_service 19 = .ok (.ireturn, 1) := by decide +kernel
theorem dX10_service_20 : decode cX10_service 20 = .ok (.aload_n 0, 1) := by decide +kernel
theorem dX10_service_21 : decode cX10_service 21 = .ok (.getfield 58, 3) := by decide +kernel
theorem dX10_service_24 : decode cX10_service 24 = .ok (.iload_n 1, 1) := by decide +kernel
theorem dX10_service_25 : decode cX10_service 25 = .ok (.iload_n 2, 1) := by decide +kernel
theorem dX10_service_26 : decode cX10_service 26 = .ok (.iload_n 3, 1) := by decide +kernel
theorem dX10_service_27 : decode cX10_service 27 = .ok (.aload_n 0, 1) := by decide +kernel
theorem dX10_service_28 : decode cX10_service 28 = .ok (.getfield 23, 3) := by decide +kernel
theorem dX10_service_31 : decode cX10_service 31 = .ok (.invokevirtual 238, 3) := by decide +kernel
theorem dX10_service_34 : decode cX10_service 34 = .ok (.ifCond .eq 13, 3) := by decide +kernel
theorem dX10_service_37 : decode cX10_service 37 = .ok (.aload_n 0, 1) := by decide +kernel
theorem dX10_service_38 : decode cX10_service 38 = .ok (.getfield 58, 3) := by decide +kernel
theorem dX10_service_41 : decode cX10_service 41 = .ok (.invokevirtual 242, 3) := by decide +kernel
theorem dX10_service_44 : decode cX10_service 44 = .ok (.goto 5, 3) := by decide +kernel
theorem dX10_service_47 : decode cX10_service 47 = .ok (.bipush (-9), 2) := by decide +kernel
theorem dX10_service_49 : decode cX10_service 49 = .ok (.ireturn, 1) := by decide +kernel
theorem dX10_matched_0 : decode cX10_matched 0 = .ok (.iload_n 1, 1) := by decide +kernel
theorem dX10_matched_1 : decode cX10_matched 1 = .ok (.iload_n 2, 1) := by decide +kernel
theorem dX10_matched_2 : decode cX10_matched 2 = .ok (.iload_n 3, 1) := by decide +kernel
theorem dX10_matched_3 : decode cX10_matched 3 = .ok (.invokestatic 235, 3) := by decide +kernel
theorem dX10_matched_6 : decode cX10_matched 6 = .ok (.istore 5, 2) := by decide +kernel
theorem dX10_matched_8 : decode cX10_matched 8 = .ok (.iload 5, 2) := by decide +kernel
theorem dX10_matched_10 : decode cX10_matched 10 = .ok (.ifCond .eq 10, 3) := by decide +kernel
theorem dX10_matched_13 : decode cX10_matched 13 = .ok (.aload_n 0, 1) := by decide +kernel
theorem dX10_matched_14 : decode cX10_matched 14 = .ok (.iload 5, 2) := by decide +kernel
theorem dX10_matched_16 : decode cX10_matched 16 = .ok (.invokevirtual 91, 3) := by decide +kernel
theorem dX10_matched_19 : decode cX10_matched 19 = .ok (.ireturn, 1) := by decide +kernel
theorem dX10_matched_20 : decode cX10_matched 20 = .ok (.aload_n 0, 1) := by decide +kernel
theorem dX10_matched_21 : decode cX10_matched 21 = .ok (.getfield 58, 3) := by decide +kernel
theorem dX10_matched_24 : decode cX10_matched 24 = .ok (.iload_n 1, 1) := by decide +kernel
theorem dX10_matched_25 : decode cX10_matched 25 = .ok (.iload_n 2, 1) := by decide +kernel
theorem dX10_matched_26 : decode cX10_matched 26 = .ok (.iload_n 3, 1) := by decide +kernel
theorem dX10_matched_27 : decode cX10_matched 27 = .ok (.aload_n 0, 1) := by decide +kernel
theorem dX10_matched_28 : decode cX10_matched 28 = .ok (.getfield 23, 3) := by decide +kernel
theorem dX10_matched_31 : decode cX10_matched 31 = .ok (.invokevirtual 238, 3) := by decide +kernel
theorem dX10_matched_34 : decode cX10_matched 34 = .ok (.ifCond .eq 18, 3) := by decide +kernel
theorem dX10_matched_37 : decode cX10_matched 37 = .ok (.iload 4, 2) := by decide +kernel
theorem dX10_matched_39 : decode cX10_matched 39 = .ok (.aload_n 0, 1) := by decide +kernel
theorem dX10_matched_40 : decode cX10_matched 40 = .ok (.getfield 58, 3) := by decide +kernel
theorem dX10_matched_43 : decode cX10_matched 43 = .ok (.getfield 245, 3) := by decide +kernel
theorem dX10_matched_46 : decode cX10_matched 46 = .ok (.invokestatic 87, 3) := by decide +kernel
theorem dX10_matched_49 : decode cX10_matched 49 = .ok (.ifCond .ne 6, 3) := by decide +kernel
theorem dX10_matched_52 : decode cX10_matched 52 = .ok (.bipush (-9), 2) := by decide +kernel
theorem dX10_matched_54 : decode cX10_matched 54 = .ok (.ireturn, 1) := by decide +kernel
theorem dX10_matched_55 : decode cX10_matched 55 = .ok (.aload_n 0, 1) := by decide +kernel
theorem dX10_matched_56 : decode cX10_matched 56 = .ok (.getfield 58, 3) := by decide +kernel
theorem dX10_matched_59 : decode cX10_matched 59 = .ok (.invokevirtual 248, 3) := by decide +kernel
theorem dX10_matched_62 : decode cX10_matched 62 = .ok (.aload_n 0, 1) := by decide +kernel
theorem dX10_matched_63 : decode cX10_matched 63 = .ok (.getfield 58, 3) := by decide +kernel
theorem dX10_matched_66 : decode cX10_matched 66 = .ok (.getfield 251, 3) := by decide +kernel
theorem dX10_matched_69 : decode cX10_matched 69 = .ok (.iload 4, 2) := by decide +kernel
theorem dX10_matched_71 : decode cX10_matched 71 = .ok (.iaload, 1) := by decide +kernel
theorem dX10_matched_72 : decode cX10_matched 72 = .ok (.ireturn, 1) := by decide +kernel
theorem dX10_sell_0 : decode cX10_sell 0 = .ok (.iload_n 1, 1) := by decide +kernel
theorem dX10_sell_1 : decode cX10_sell 1 = .ok (.iload_n 2, 1) := by decide +kernel
theorem dX10_sell_2 : decode cX10_sell 2 = .ok (.iload_n 3, 1) := by decide +kernel
theorem dX10_sell_3 : decode cX10_sell 3 = .ok (.invokestatic 235, 3) := by decide +kernel
theorem dX10_sell_6 : decode cX10_sell 6 = .ok (.istore 4, 2) := by decide +kernel
theorem dX10_sell_8 : decode cX10_sell 8 = .ok (.iload 4, 2) := by decide +kernel
theorem dX10_sell_10 : decode cX10_sell 10 = .ok (.ifCond .eq 10, 3) := by decide +kernel
theorem dX10_sell_13 : decode cX10_sell 13 = .ok (.aload_n 0, 1) := by decide +kernel
theorem dX10_sell_14 : decode cX10_sell 14 = .ok (.iload 4, 2) := by decide +kernel
theorem dX10_sell_16 : decode cX10_sell 16 = .ok (.invokevirtual 91, 3) := by decide +kernel
theorem dX10_sell_19 : decode cX10_sell 19 = .ok (.ireturn, 1) := by decide +kernel
theorem dX10_sell_20 : decode cX10_sell 20 = .ok (.aload_n 0, 1) := by decide +kernel
theorem dX10_sell_21 : decode cX10_sell 21 = .ok (.getfield 58, 3) := by decide +kernel
theorem dX10_sell_24 : decode cX10_sell 24 = .ok (.iload_n 1, 1) := by decide +kernel
theorem dX10_sell_25 : decode cX10_sell 25 = .ok (.iload_n 2, 1) := by decide +kernel
theorem dX10_sell_26 : decode cX10_sell 26 = .ok (.iload_n 3, 1) := by decide +kernel
theorem dX10_sell_27 : decode cX10_sell 27 = .ok (.aload_n 0, 1) := by decide +kernel
theorem dX10_sell_28 : decode cX10_sell 28 = .ok (.getfield 23, 3) := by decide +kernel
theorem dX10_sell_31 : decode cX10_sell 31 = .ok (.invokevirtual 238, 3) := by decide +kernel
theorem dX10_sell_34 : decode cX10_sell 34 = .ok (.ifCond .ne 10, 3) := by decide +kernel
theorem dX10_sell_37 : decode cX10_sell 37 = .ok (.aload_n 0, 1) := by decide +kernel
theorem dX10_sell_38 : decode cX10_sell 38 = .ok (.bipush (-3), 2) := by decide +kernel
theorem dX10_sell_40 : decode cX10_sell 40 = .ok (.invokevirtual 91, 3) := by decide +kernel
theorem dX10_sell_43 : decode cX10_sell 43 = .ok (.ireturn, 1) := by decide +kernel
theorem dX10_sell_44 : decode cX10_sell 44 = .ok (.iconst 0, 1) := by decide +kernel
theorem dX10_sell_45 : decode cX10_sell 45 = .ok (.istore 5, 2) := by decide +kernel
theorem dX10_sell_47 : decode cX10_sell 47 = .ok (.iload 5, 2) := by decide +kernel
theorem dX10_sell_49 : decode cX10_sell 49 = .ok (.aload_n 0, 1) := by decide +kernel
theorem dX10_sell_50 : decode cX10_sell 50 = .ok (.getfield 58, 3) := by decide +kernel
theorem dX10_sell_53 : decode cX10_sell 53 = .ok (.getfield 245, 3) := by decide +kernel
theorem dX10_sell_56 : decode cX10_sell 56 = .ok (.if_icmp .ge 28, 3) := by decide +kernel
theorem dX10_sell_59 : decode cX10_sell 59 = .ok (.aload_n 0, 1) := by decide +kernel
theorem dX10_sell_60 : decode cX10_sell 60 = .ok (.getfield 23, 3) := by decide +kernel
theorem dX10_sell_63 : decode cX10_sell 63 = .ok (.getfield 232, 3) := by decide +kernel
theorem dX10_sell_66 : decode cX10_sell 66 = .ok (.aload_n 0, 1) := by decide +kernel
theorem dX10_sell_67 : decode cX10_sell 67 = .ok (.getfield 58, 3) := by decide +kernel
theorem dX10_sell_70 : decode cX10_sell 70 = .ok (.getfield 251, 3) := by decide +kernel
theorem dX10_sell_73 : decode cX10_sell 73 = .ok (.iload 5, 2) := by decide +kernel
theorem dX10_sell_75 : decode cX10_sell 75 = .ok (.iaload, 1) := by decide +kernel
theorem dX10_sell_76 : decode cX10_sell 76 = .ok (.iconst 4, 1) := by decide +kernel
theorem dX10_sell_77 : decode cX10_sell 77 = .ok (.iastore, 1) := by decide +kernel
theorem dX10_sell_78 : decode cX10_sell 78 = .ok (.iinc 5 1, 3) := by decide +kernel
theorem dX10_sell_81 : decode cX10_sell 81 = .ok (.goto (-34), 3) := by decide +kernel
theorem dX10_sell_84 : decode cX10_sell 84 = .ok (.iload_n 2, 1) := by decide +kernel
theorem dX10_sell_85 : decode cX10_sell 85 = .ok (.ireturn, 1) := by decide +kernel
theorem dX10_chance_0 : decode cX10_chance 0 = .ok (.iload_n 1, 1) := by decide +kernel
theorem dX10_chance_1 : decode cX10_chance 1 = .ok (.ifCond .lt 11, 3) := by decide +kernel
theorem dX10_chance_4 : decode cX10_chance 4 = .ok (.iload_n 2, 1) := by decide +kernel
theorem dX10_chance_5 : decode cX10_chance 5 = .ok (.ifCond .lt 7, 3) := by decide +kernel
theorem dX10_chance_8 : decode cX10_chance 8 = .ok (.iload_n 3, 1) := by decide +kernel
theorem dX10_chance_9 : decode cX10_chance 9 = .ok (.ifCond .ge 10, 3) := by decide +kernel
theorem dX10_chance_12 : decode cX10_chance 12 = .ok (.aload_n 0, 1) := by decide +kernel
theorem dX10_chance_13 : decode cX10_chance 13 = .ok (.bipush (-4), 2) := by decide +kernel
theorem dX10_chance_15 : decode cX10_chance 15 = .ok (.invokevirtual 91, 3) := by decide +kernel
theorem dX10_chance_18 : decode cX10_chance 18 = .ok (.ireturn, 1) := by decide +kernel
theorem dX10_chance_19 : decode cX10_chance 19 = .ok (.iload_n 1, 1) := by decide +kernel
theorem dX10_chance_20 : decode cX10_chance 20 = .ok (.sipush 200, 3) := by decide +kernel
theorem dX10_chance_23 : decode cX10_chance 23 = .ok (.if_icmp .gt 17, 3) := by decide +kernel
theorem dX10_chance_26 : decode cX10_chance 26 = .ok (.iload_n 2, 1) := by decide +kernel
theorem dX10_chance_27 : decode cX10_chance 27 = .ok (.sipush 200, 3) := by decide +kernel
theorem dX10_chance_30 : decode cX10_chance 30 = .ok (.if_icmp .gt 10, 3) := by decide +kernel
theorem dX10_chance_33 : decode cX10_chance 33 = .ok (.iload_n 3, 1) := by decide +kernel
theorem dX10_chance_34 : decode cX10_chance 34 = .ok (.sipush 1024, 3) := by decide +kernel
theorem dX10_chance_37 : decode cX10_chance 37 = .ok (.if_icmp .le 10, 3) := by decide +kernel
theorem dX10_chance_40 : decode cX10_chance 40 = .ok (.aload_n 0, 1) := by decide +kernel
theorem dX10_chance_41 : decode cX10_chance 41 = .ok (.bipush (-6), 2) := by decide +kernel
theorem dX10_chance_43 : decode cX10_chance 43 = .ok (.invokevirtual 91, 3) := by decide +kernel
theorem dX10_chance_46 : decode cX10_chance 46 = .ok (.ireturn, 1) := by decide +kernel
theorem dX10_chance_47 : decode cX10_chance 47 = .ok (.aload_n 0, 1) := by decide +kernel
theorem dX10_chance_48 : decode cX10_chance 48 = .ok (.getfield 65, 3) := by decide +kernel
theorem dX10_chance_51 : decode cX10_chance 51 = .ok (.iload_n 1, 1) := by decide +kernel
theorem dX10_chance_52 : decode cX10_chance 52 = .ok (.iload_n 2, 1) := by decide +kernel
theorem dX10_chance_53 : decode cX10_chance 53 = .ok (.iload_n 3, 1) := by decide +kernel
theorem dX10_chance_54 : decode cX10_chance 54 = .ok (.invokevirtual 254, 3) := by decide +kernel
theorem dX10_chance_57 : decode cX10_chance 57 = .ok (.ireturn, 1) := by decide +kernel
theorem dX10_make_0 : decode cX10_make 0 = .ok (.iload_n 1, 1) := by decide +kernel
theorem dX10_make_1 : decode cX10_make 1 = .ok (.ifCond .lt 11, 3) := by decide +kernel
theorem dX10_make_4 : decode cX10_make 4 = .ok (.iload_n 2, 1) := by decide +kernel
theorem dX10_make_5 : decode cX10_make 5 = .ok (.ifCond .lt 7, 3) := by decide +kernel
theorem dX10_make_8 : decode cX10_make 8 = .ok (.iload_n 3, 1) := by decide +kernel
theorem dX10_make_9 : decode cX10_make 9 = .ok (.ifCond .ge 10, 3) := by decide +kernel
theorem dX10_make_12 : decode cX10_make 12 = .ok (.aload_n 0, 1) := by decide +kernel
theorem dX10_make_13 : decode cX10_make 13 = .ok (.bipush (-4), 2) := by decide +kernel
theorem dX10_make_15 : decode cX10_make 15 = .ok (.invokevirtual 91, 3) := by decide +kernel
theorem dX10_make_18 : decode cX10_make 18 = .ok (.ireturn, 1) := by decide +kernel
theorem dX10_make_19 : decode cX10_make 19 = .ok (.iload_n 1, 1) := by decide +kernel
theorem dX10_make_20 : decode cX10_make 20 = .ok (.sipush 200, 3) := by decide +kernel
theorem dX10_make_23 : decode cX10_make 23 = .ok (.if_icmp .gt 17, 3) := by decide +kernel
theorem dX10_make_26 : decode cX10_make 26 = .ok (.iload_n 2, 1) := by decide +kernel
theorem dX10_make_27 : decode cX10_make 27 = .ok (.sipush 1024, 3) := by decide +kernel
theorem dX10_make_30 : decode cX10_make 30 = .ok (.if_icmp .gt 10, 3) := by decide +kernel
theorem dX10_make_33 : decode cX10_make 33 = .ok (.iload_n 3, 1) := by decide +kernel
theorem dX10_make_34 : decode cX10_make 34 = .ok (.ldc_w 257, 3) := by decide +kernel
theorem dX10_make_37 : decode cX10_make 37 = .ok (.if_icmp .le 10, 3) := by decide +kernel
theorem dX10_make_40 : decode cX10_make 40 = .ok (.aload_n 0, 1) := by decide +kernel
theorem dX10_make_41 : decode cX10_make 41 = .ok (.bipush (-6), 2) := by decide +kernel
theorem dX10_make_43 : decode cX10_make 43 = .ok (.invokevirtual 91, 3) := by decide +kernel
theorem dX10_make_46 : decode cX10_make 46 = .ok (.ireturn, 1) := by decide +kernel
theorem dX10_make_47 : decode cX10_make 47 = .ok (.aload_n 0, 1) := by decide +kernel
theorem dX10_make_48 : decode cX10_make 48 = .ok (.getfield 65, 3) := by decide +kernel
theorem dX10_make_51 : decode cX10_make 51 = .ok (.iload_n 1, 1) := by decide +kernel
theorem dX10_make_52 : decode cX10_make 52 = .ok (.iload_n 2, 1) := by decide +kernel
theorem dX10_make_53 : decode cX10_make 53 = .ok (.iload_n 3, 1) := by decide +kernel
theorem dX10_make_54 : decode cX10_make 54 = .ok (.invokevirtual 258, 3) := by decide +kernel
theorem dX10_make_57 : decode cX10_make 57 = .ok (.ireturn, 1) := by decide +kernel
theorem dX10_see_0 : decode cX10_see 0 = .ok (.iload_n 1, 1) := by decide +kernel
theorem dX10_see_1 : decode cX10_see 1 = .ok (.bipush 16, 2) := by decide +kernel
theorem dX10_see_3 : decode cX10_see 3 = .ok (.invokestatic 87, 3) := by decide +kernel
theorem dX10_see_6 : decode cX10_see 6 = .ok (.ifCond .eq 11, 3) := by decide +kernel
theorem dX10_see_9 : decode cX10_see 9 = .ok (.iload_n 2, 1) := by decide +kernel
theorem dX10_see_10 : decode cX10_see 10 = .ok (.iconst 2, 1) := by decide +kernel
theorem dX10_see_11 : decode cX10_see 11 = .ok (.invokestatic 87, 3) := by decide +kernel
theorem dX10_see_14 : decode cX10_see 14 = .ok (.ifCond .ne 9, 3) := by decide +kernel
theorem dX10_see_17 : decode cX10_see 17 = .ok (.aload_n 0, 1) := by decide +kernel
theorem dX10_see_18 : decode cX10_see 18 = .ok (.iconst (-1), 1) := by decide +kernel
theorem dX10_see_19 : decode cX10_see 19 = .ok (.invokevirtual 91, 3) := by decide +kernel
theorem dX10_see_22 : decode cX10_see 22 = .ok (.ireturn, 1) := by decide +kernel
theorem dX10_see_23 : decode cX10_see 23 = .ok (.aload_n 0, 1) := by decide +kernel
theorem dX10_see_24 : decode cX10_see 24 = .ok (.getfield 72, 3) := by decide +kernel
theorem dX10_see_27 : decode cX10_see 27 = .ok (.iload_n 1, 1) := by decide +kernel
theorem dX10_see_28 : decode cX10_see 28 = .ok (.iload_n 2, 1) := by decide +kernel
theorem dX10_see_29 : decode cX10_see 29 = .ok (.aload_n 0, 1) := by decide +kernel
theorem dX10_see_30 : decode cX10_see 30 = .ok (.getfield 83, 3) := by decide +kernel
theorem dX10_see_33 : decode cX10_see 33 = .ok (.invokevirtual 261, 3) := by decide +kernel
theorem dX10_see_36 : decode cX10_see 36 = .ok (.ifCond .eq 7, 3) := by decide +kernel
theorem dX10_see_39 : decode cX10_see 39 = .ok (.iconst 1, 1) := by decide +kernel
theorem dX10_see_40 : decode cX10_see 40 = .ok (.goto 4, 3) := by decide +kernel
theorem dX10_see_43 : decode cX10_see 43 = .ok (.iconst 0, 1) := by decide +kernel
theorem dX10_see_44 : decode cX10_see 44 = .ok (.ireturn, 1) := by decide +kernel
theorem dX10_talk_0 : decode cX10_talk 0 = .ok (.iload_n 1, 1) := by decide +kernel
theorem dX10_talk_1 : decode cX10_talk 1 = .ok (.bipush 16, 2) := by decide +kernel
theorem dX10_talk_3 : decode cX10_talk 3 = .ok (.invokestatic 87, 3) := by decide +kernel
theorem dX10_talk_6 : decode cX10_talk 6 = .ok (.ifCond .eq 17, 3) := by decide +kernel
theorem dX10_talk_9 : decode cX10_talk 9 = .ok (.iload_n 2, 1) := by decide +kernel
theorem dX10_talk_10 : decode cX10_talk 10 = .ok (.bipush 16, 2) := by decide +kernel
theorem dX10_talk_12 : decode cX10_talk 12 = .ok (.invokestatic 87, 3) := by decide +kernel
theorem dX10_talk_15 : decode cX10_talk 15 = .ok (.ifCond .eq 8, 3) := by decide +kernel
theorem dX10_talk_18 : decode cX10_talk 18 = .ok (.iload_n 1, 1) := by decide +kernel
theorem dX10_talk_19 : decode cX10_talk 19 = .ok (.iload_n 2, 1) := by decide +kernel
theorem dX10_talk_20 : decode cX10_talk 20 = .ok (.if_icmp .ne 9, 3) := by decide +kernel
theorem dX10_talk_23 : decode cX10_talk 23 = .ok (.aload_n 0, 1) := by decide +kernel
theorem dX10_talk_24 : decode cX10_talk 24 = .ok (.iconst (-1), 1) := by decide +kernel
theorem dX10_talk_25 : decode cX10_talk 25 = .ok (.invokevirtual 91, 3) := by decide +kernel
theorem dX10_talk_28 : decode cX10_talk 28 = .ok (.ireturn, 1) := by decide +kernel
theorem dX10_talk_29 : decode cX10_talk 29 = .ok (.aload_n 0, 1) := by decide +kernel
theorem dX10_talk_30 : decode cX10_talk 30 = .ok (.getfield 72, 3) := by decide +kernel
theorem dX10_talk_33 : decode cX10_talk 33 = .ok (.iload_n 1, 1) := by decide +kernel
theorem dX10_talk_34 : decode cX10_talk 34 = .ok (.iload_n 2, 1) := by decide +kernel
theorem dX10_talk_35 : decode cX10_talk 35 = .ok (.aload_n 0, 1) := by decide +kernel
theorem dX10_talk_36 : decode cX10_talk 36 = .ok (.getfield 83, 3) := by decide +kernel
theorem dX10_talk_39 : decode cX10_talk 39 = .ok (.invokevirtual 265, 3) := by decide +kernel
theorem dX10_talk_42 : decode cX10_talk 42 = .ok (.ifCond .eq 5, 3) := by decide +kernel
theorem dX10_talk_45 : decode cX10_talk 45 = .ok (.iconst 0, 1) := by decide +kernel
theorem dX10_talk_46 : decode cX10_talk 46 = .ok (.ireturn, 1) := by decide +kernel
theorem dX10_talk_47 : decode cX10_talk 47 = .ok (.aload_n 0, 1) := by decide +kernel
theorem dX10_talk_48 : decode cX10_talk 48 = .ok (.getfield 72, 3) := by decide +kernel
theorem dX10_talk_51 : decode cX10_talk 51 = .ok (.getfield 268, 3) := by decide +kernel
theorem dX10_talk_54 : decode cX10_talk 54 = .ok (.bipush 60, 2) := by decide +kernel
theorem dX10_talk_56 : decode cX10_talk 56 = .ok (.if_icmp .lt 10, 3) := by decide +kernel
theorem dX10_talk_59 : decode cX10_talk 59 = .ok (.aload_n 0, 1) := by decide +kernel
theorem dX10_talk_60 : decode cX10_talk 60 = .ok (.bipush (-6), 2) := by decide +kernel
theorem dX10_talk_62 : decode cX10_talk 62 = .ok (.invokevirtual 91, 3) := by decide +kernel
theorem dX10_talk_65 : decode cX10_talk 65 = .ok (.ireturn, 1) := by decide +kernel
theorem dX10_talk_66 : decode cX10_talk 66 = .ok (.aload_n 0, 1) := by decide +kernel
theorem dX10_talk_67 : decode cX10_talk 67 = .ok (.getfield 72, 3) := by decide +kernel
theorem dX10_talk_70 : decode cX10_talk 70 = .ok (.iload_n 1, 1) := by decide +kernel
theorem dX10_talk_71 : decode cX10_talk 71 = .ok (.iload_n 2, 1) := by decide +kernel
theorem dX10_talk_72 : decode cX10_talk 72 = .ok (.aload_n 0, 1) := by decide +kernel
theorem dX10_talk_73 : decode cX10_talk 73 = .ok (.getfield 83, 3) := by decide +kernel
theorem dX10_talk_76 : decode cX10_talk 76 = .ok (.invokevirtual 271, 3) := by decide +kernel
theorem dX10_talk_79 : decode cX10_talk 79 = .ok (.iconst 1, 1) := by decide +kernel
theorem dX10_talk_80 : decode cX10_talk 80 = .ok (.ireturn, 1) := by decide +kernel
theorem dX10_knows_0 : decode cX10_knows 0 = .ok (.iload_n 1, 1) := by decide +kernel
theorem dX10_knows_1 : decode cX10_knows 1 = .ok (.bipush 16, 2) := by decide +kernel
theorem dX10_knows_3 : decode cX10_knows 3 = .ok (.invokestatic 87, 3) := by decide +kernel
theorem dX10_knows_6 : decode cX10_knows 6 = .ok (.ifCond .ne 9, 3) := by decide +kernel
theorem dX10_knows_9 : decode cX10_knows 9 = .ok (.aload_n 0, 1) := by decide +kernel
theorem dX10_knows_10 : decode cX10_knows 10 = .ok (.iconst (-1), 1) := by decide +kernel
theorem dX10_knows_11 : decode cX10_knows 11 = .ok (.invokevirtual 91, 3) := by decide +kernel
theorem dX10_knows_14 : decode cX10_knows 14 = .ok (.ireturn, 1) := by decide +kernel
theorem dX10_knows_15 : decode cX10_knows 15 = .ok (.aload_n 0, 1) := by decide +kernel
theorem dX10_knows_16 : decode cX10_knows 16 = .ok (.getfield 72, 3) := by decide +kernel
theorem dX10_knows_19 : decode cX10_knows 19 = .ok (.bipush (-9), 2) := by decide +kernel
theorem dX10_knows_21 : decode cX10_knows 21 = .ok (.invokevirtual 275, 3) := by decide +kernel
theorem dX10_knows_24 : decode cX10_knows 24 = .ok (.aload_n 0, 1) := by decide +kernel
theorem dX10_knows_25 : decode cX10_knows 25 = .ok (.getfield 72, 3) := by decide +kernel
theorem dX10_knows_28 : decode cX10_knows 28 = .ok (.iload_n 1, 1) := by decide +kernel
theorem dX10_knows_29 : decode cX10_knows 29 = .ok (.invokevirtual 278, 3) := by decide +kernel
theorem dX10_knows_32 : decode cX10_knows 32 = .ok (.ireturn, 1) := by decide +kernel
theorem dX10_joined_0 : decode cX10_joined 0 = .ok (.aload_n 0, 1) := by decide +kernel
theorem dX10_joined_1 : decode cX10_joined 1 = .ok (.getfield 72, 3) := by decide +kernel
theorem dX10_joined_4 : decode cX10_joined 4 = .ok (.bipush (-9), 2) := by decide +kernel
theorem dX10_joined_6 : decode cX10_joined 6 = .ok (.invokevirtual 275, 3) := by decide +kernel
theorem dX10_joined_9 : decode cX10_joined 9 = .ok (.aload_n 0, 1) := by decide +kernel
theorem dX10_joined_10 : decode cX10_joined 10 = .ok (.getfield 72, 3) := by decide +kernel
theorem dX10_joined_13 : decode cX10_joined 13 = .ok (.getfield 281, 3) := by decide +kernel
theorem dX10_joined_16 : decode cX10_joined 16 = .ok (.ireturn, 1) := by decide +kernel
theorem dX10_leak_0 : decode cX10_leak 0 = .ok (.aload_n 0, 1) := by decide +kernel
theorem dX10_leak_1 : decode cX10_leak 1 = .ok (.getfield 72, 3) := by decide +kernel
theorem dX10_leak_4 : decode cX10_leak 4 = .ok (.invokevirtual 284, 3) := by decide +kernel
theorem dX10_leak_7 : decode cX10_leak 7 = .ok (.ireturn, 1) := by decide +kernel
theorem dX10_debt_0 : decode cX10_debt 0 = .ok (.iload_n 1, 1) := by decide +kernel
theorem dX10_debt_1 : decode cX10_debt 1 = .ok (.ifCond .lt 7, 3) := by decide +kernel
theorem dX10_debt_4 : decode cX10_debt 4 = .ok (.iload_n 2, 1) := by decide +kernel
theorem dX10_debt_5 : decode cX10_debt 5 = .ok (.ifCond .ge 10, 3) := by decide +kernel
theorem dX10_debt_8 : decode cX10_debt 8 = .ok (.aload_n 0, 1) := by decide +kernel
theorem dX10_debt_9 : decode cX10_debt 9 = .ok (.bipush (-4), 2) := by decide +kernel
theorem dX10_debt_11 : decode cX10_debt 11 = .ok (.invokevirtual 91, 3) := by decide +kernel
theorem dX10_debt_14 : decode cX10_debt 14 = .ok (.ireturn, 1) := by decide +kernel
theorem dX10_debt_15 : decode cX10_debt 15 = .ok (.iload_n 1, 1) := by decide +kernel
theorem dX10_debt_16 : decode cX10_debt 16 = .ok (.ldc_w 287, 3) := by decide +kernel
theorem dX10_debt_19 : decode cX10_debt 19 = .ok (.if_icmp .gt 22, 3) := by decide +kernel
theorem dX10_debt_22 : decode cX10_debt 22 = .ok (.iload_n 2, 1) := by decide +kernel
theorem dX10_debt_23 : decode cX10_debt 23 = .ok (.sipush 500, 3) := by decide +kernel
theorem dX10_debt_26 : decode cX10_debt 26 = .ok (.if_icmp .gt 15, 3) := by decide +kernel
theorem dX10_debt_29 : decode cX10_debt 29 = .ok (.aload_n 0, 1) := by decide +kernel
theorem dX10_debt_30 : decode cX10_debt 30 = .ok (.getfield 79, 3) := by decide +kernel
theorem dX10_debt_33 : decode cX10_debt 33 = .ok (.getfield 288, 3) := by decide +kernel
theorem dX10_debt_36 : decode cX10_debt 36 = .ok (.bipush 6, 2) := by decide +kernel
theorem dX10_debt_38 : decode cX10_debt 38 = .ok (.if_icmp .lt 10, 3) := by decide +kernel
theorem dX10_debt_41 : decode cX10_debt 41 = .ok (.aload_n 0, 1) := by decide +kernel
theorem dX10_debt_42 : decode cX10_debt 42 = .ok (.bipush (-6), 2) := by decide +kernel
theorem dX10_debt_44 : decode cX10_debt 44 = .ok (.invokevirtual 91, 3) := by decide +kernel
theorem dX10_debt_47 : decode cX10_debt 47 = .ok (.ireturn, 1) := by decide +kernel
theorem dX10_debt_48 : decode cX10_debt 48 = .ok (.aload_n 0, 1) := by decide +kernel
theorem dX10_debt_49 : decode cX10_debt 49 = .ok (.getfield 79, 3) := by decide +kernel
theorem dX10_debt_52 : decode cX10_debt 52 = .ok (.iload_n 1, 1) := by decide +kernel
theorem dX10_debt_53 : decode cX10_debt 53 = .ok (.iload_n 2, 1) := by decide +kernel
theorem dX10_debt_54 : decode cX10_debt 54 = .ok (.aload_n 0, 1) := by decide +kernel
theorem dX10_debt_55 : decode cX10_debt 55 = .ok (.getfield 83, 3) := by decide +kernel
theorem dX10_debt_58 : decode cX10_debt 58 = .ok (.invokevirtual 291, 3) := by decide +kernel
theorem dX10_debt_61 : decode cX10_debt 61 = .ok (.ireturn, 1) := by decide +kernel
theorem dX10_pay_0 : decode cX10_pay 0 = .ok (.iload_n 1, 1) := by decide +kernel
theorem dX10_pay_1 : decode cX10_pay 1 = .ok (.aload_n 0, 1) := by decide +kernel
theorem dX10_pay_2 : decode cX10_pay 2 = .ok (.getfield 79, 3) := by decide +kernel
theorem dX10_pay_5 : decode cX10_pay 5 = .ok (.getfield 288, 3) := by decide +kernel
theorem dX10_pay_8 : decode cX10_pay 8 = .ok (.invokestatic 87, 3) := by decide +kernel
theorem dX10_pay_11 : decode cX10_pay 11 = .ok (.ifCond .ne 9, 3) := by decide +kernel
theorem dX10_pay_14 : decode cX10_pay 14 = .ok (.aload_n 0, 1) := by decide +kernel
theorem dX10_pay_15 : decode cX10_pay 15 = .ok (.iconst (-1), 1) := by decide +kernel
theorem dX10_pay_16 : decode cX10_pay 16 = .ok (.invokevirtual 91, 3) := by decide +kernel
theorem dX10_pay_19 : decode cX10_pay 19 = .ok (.ireturn, 1) := by decide +kernel
theorem dX10_pay_20 : decode cX10_pay 20 = .ok (.iload_n 2, 1) := by decide +kernel
theorem dX10_pay_21 : decode cX10_pay 21 = .ok (.iconst 1, 1) := by decide +kernel
theorem dX10_pay_22 : decode cX10_pay 22 = .ok (.if_icmp .ge 10, 3) := by decide +kernel
theorem dX10_pay_25 : decode cX10_pay 25 = .ok (.aload_n 0, 1) := by decide +kernel
theorem dX10_pay_26 : decode cX10_pay 26 = .ok (.bipush (-4), 2) := by decide +kernel
theorem dX10_pay_28 : decode cX10_pay 28 = .ok (.invokevirtual 91, 3) := by decide +kernel
theorem dX10_pay_31 : decode cX10_pay 31 = .ok (.ireturn, 1) := by decide +kernel
theorem dX10_pay_32 : decode cX10_pay 32 = .ok (.iload_n 2, 1) := by decide +kernel
theorem dX10_pay_33 : decode cX10_pay 33 = .ok (.ldc_w 287, 3) := by decide +kernel
theorem dX10_pay_36 : decode cX10_pay 36 = .ok (.if_icmp .gt 16, 3) := by decide +kernel
theorem dX10_pay_39 : decode cX10_pay 39 = .ok (.iload_n 2, 1) := by decide +kernel
theorem dX10_pay_40 : decode cX10_pay 40 = .ok (.aload_n 0, 1) := by decide +kernel
theorem dX10_pay_41 : decode cX10_pay 41 = .ok (.getfield 79, 3) := by decide +kernel
theorem dX10_pay_44 : decode cX10_pay 44 = .ok (.getfield 294, 3) := by decide +kernel
theorem dX10_pay_47 : decode cX10_pay 47 = .ok (.iload_n 1, 1) := by decide +kernel
theorem dX10_pay_48 : decode cX10_pay 48 = .ok (.iaload, 1) := by decide +kernel
theorem dX10_pay_49 : decode cX10_pay 49 = .ok (.if_icmp .le 10, 3) := by decide +kernel
theorem dX10_pay_52 : decode cX10_pay 52 = .ok (.aload_n 0, 1) := by decide +kernel
theorem dX10_pay_53 : decode cX10_pay 53 = .ok (.bipush (-6), 2) := by decide +kernel
theorem dX10_pay_55 : decode cX10_pay 55 = .ok (.invokevirtual 91, 3) := by decide +kernel
theorem dX10_pay_58 : decode cX10_pay 58 = .ok (.ireturn, 1) := by decide +kernel
theorem dX10_pay_59 : decode cX10_pay 59 = .ok (.aload_n 0, 1) := by decide +kernel
theorem dX10_pay_60 : decode cX10_pay 60 = .ok (.getfield 79, 3) := by decide +kernel
theorem dX10_pay_63 : decode cX10_pay 63 = .ok (.getfield 294, 3) := by decide +kernel
theorem dX10_pay_66 : decode cX10_pay 66 = .ok (.iload_n 1, 1) := by decide +kernel
theorem dX10_pay_67 : decode cX10_pay 67 = .ok (.dup2, 1) := by decide +kernel
theorem dX10_pay_68 : decode cX10_pay 68 = .ok (.iaload, 1) := by decide +kernel
theorem dX10_pay_69 : decode cX10_pay 69 = .ok (.iload_n 2, 1) := by decide +kernel
theorem dX10_pay_70 : decode cX10_pay 70 = .ok (.isub, 1) := by decide +kernel
theorem dX10_pay_71 : decode cX10_pay 71 = .ok (.iastore, 1) := by decide +kernel
theorem dX10_pay_72 : decode cX10_pay 72 = .ok (.aload_n 0, 1) := by decide +kernel
theorem dX10_pay_73 : decode cX10_pay 73 = .ok (.getfield 79, 3) := by decide +kernel
theorem dX10_pay_76 : decode cX10_pay 76 = .ok (.getfield 294, 3) := by decide +kernel
theorem dX10_pay_79 : decode cX10_pay 79 = .ok (.iload_n 1, 1) := by decide +kernel
theorem dX10_pay_80 : decode cX10_pay 80 = .ok (.iaload, 1) := by decide +kernel
theorem dX10_pay_81 : decode cX10_pay 81 = .ok (.ireturn, 1) := by decide +kernel
theorem dX10_owed_0 : decode cX10_owed 0 = .ok (.iload_n 1, 1) := by decide +kernel
theorem dX10_owed_1 : decode cX10_owed 1 = .ok (.aload_n 0, 1) := by decide +kernel
theorem dX10_owed_2 : decode cX10_owed 2 = .ok (.getfield 79, 3) := by decide +kernel
theorem dX10_owed_5 : decode cX10_owed 5 = .ok (.getfield 288, 3) := by decide +kernel
theorem dX10_owed_8 : decode cX10_owed 8 = .ok (.invokestatic 87, 3) := by decide +kernel
theorem dX10_owed_11 : decode cX10_owed 11 = .ok (.ifCond .ne 9, 3) := by decide +kernel
theorem dX10_owed_14 : decode cX10_owed 14 = .ok (.aload_n 0, 1) := by decide +kernel
theorem dX10_owed_15 : decode cX10_owed 15 = .ok (.iconst (-1), 1) := by decide +kernel
theorem dX10_owed_16 : decode cX10_owed 16 = .ok (.invokevirtual 91, 3) := by decide +kernel
theorem dX10_owed_19 : decode cX10_owed 19 = .ok (.ireturn, 1) := by decide +kernel
theorem dX10_owed_20 : decode cX10_owed 20 = .ok (.iload_n 2, 1) := by decide +kernel
theorem dX10_owed_21 : decode cX10_owed 21 = .ok (.ifCond .ge 10, 3) := by decide +kernel
theorem dX10_owed_24 : decode cX10_owed 24 = .ok (.aload_n 0, 1) := by decide +kernel
theorem dX10_owed_25 : decode cX10_owed 25 = .ok (.bipush (-4), 2) := by decide +kernel
theorem dX10_owed_27 : decode cX10_owed 27 = .ok (.invokevirtual 91, 3) := by decide +kernel
theorem dX10_owed_30 : decode cX10_owed 30 = .ok (.ireturn, 1) := by decide +kernel
theorem dX10_owed_31 : decode cX10_owed 31 = .ok (.iload_n 2, 1) := by decide +kernel
theorem dX10_owed_32 : decode cX10_owed 32 = .ok (.sipush 4000, 3) := by decide +kernel
theorem dX10_owed_35 : decode cX10_owed 35 = .ok (.if_icmp .le 10, 3) := by decide +kernel
theorem dX10_owed_38 : decode cX10_owed 38 = .ok (.aload_n 0, 1) := by decide +kernel
theorem dX10_owed_39 : decode cX10_owed 39 = .ok (.bipush (-6), 2) := by decide +kernel
theorem dX10_owed_41 : decode cX10_owed 41 = .ok (.invokevirtual 91, 3) := by decide +kernel
theorem dX10_owed_44 : decode cX10_owed 44 = .ok (.ireturn, 1) := by decide +kernel
theorem dX10_owed_45 : decode cX10_owed 45 = .ok (.aload_n 0, 1) := by decide +kernel
theorem dX10_owed_46 : decode cX10_owed 46 = .ok (.getfield 79, 3) := by decide +kernel
theorem dX10_owed_49 : decode cX10_owed 49 = .ok (.iload_n 1, 1) := by decide +kernel
theorem dX10_owed_50 : decode cX10_owed 50 = .ok (.aload_n 0, 1) := by decide +kernel
theorem dX10_owed_51 : decode cX10_owed 51 = .ok (.getfield 83, 3) := by decide +kernel
theorem dX10_owed_54 : decode cX10_owed 54 = .ok (.iload_n 2, 1) := by decide +kernel
theorem dX10_owed_55 : decode cX10_owed 55 = .ok (.invokevirtual 297, 3) := by decide +kernel
theorem dX10_owed_58 : decode cX10_owed 58 = .ok (.ireturn, 1) := by decide +kernel
theorem dX10_pieceOf_0 : decode cX10_pieceOf 0 = .ok (.iload_n 1, 1) := by decide +kernel
theorem dX10_pieceOf_1 : decode cX10_pieceOf 1 = .ok (.aload_n 0, 1) := by decide +kernel
theorem dX10_pieceOf_2 : decode cX10_pieceOf 2 = .ok (.getfield 23, 3) := by decide +kernel
theorem dX10_pieceOf_5 : decode cX10_pieceOf 5 = .ok (.getfield 118, 3) := by decide +kernel
theorem dX10_pieceOf_8 : decode cX10_pieceOf 8 = .ok (.invokestatic 87, 3) := by decide +kernel
theorem dX10_pieceOf_11 : decode cX10_pieceOf 11 = .ok (.ifCond .ne 9, 3) := by decide +kernel
theorem dX10_pieceOf_14 : decode cX10_pieceOf 14 = .ok (.aload_n 0, 1) := by decide +kernel
theorem dX10_pieceOf_15 : decode cX10_pieceOf 15 = .ok (.iconst (-1), 1) := by decide +kernel
theorem dX10_pieceOf_16 : decode cX10_pieceOf 16 = .ok (.invokevirtual 91, 3) := by decide +kernel
theorem dX10_pieceOf_19 : decode cX10_pieceOf 19 = .ok (.ireturn, 1) := by decide +kernel
theorem dX10_pieceOf_20 : decode cX10_pieceOf 20 = .ok (.iload_n 2, 1) := by decide +kernel
theorem dX10_pieceOf_21 : decode cX10_pieceOf 21 = .ok (.tableswitch 113 0 6 #[43, 53, 63, 73, 83, 93, 103], 43) := by decide +kernel
theorem dX10_pieceOf_64 : decode cX10_pieceOf 64 = .ok (.aload_n 0, 1) := by decide +kernel
theorem dX10_pieceOf_65 : decode cX10_pieceOf 65 = .ok (.getfield 23, 3) := by decide +kernel
theorem dX10_pieceOf_68 : decode cX10_pieceOf 68 = .ok (.getfield 232, 3) := by decide +kernel
theorem dX10_pieceOf_71 : decode cX10_pieceOf 71 = .ok (.iload_n 1, 1) := by decide +kernel
theorem dX10_pieceOf_72 : decode cX10_pieceOf 72 = .ok (.iaload, 1) := by decide +kernel
theorem dX10_pieceOf_73 : decode cX10_pieceOf 73 = .ok (.ireturn, 1) := by decide +kernel
theorem dX10_pieceOf_74 : decode cX10_pieceOf 74 = .ok (.aload_n 0, 1) := by decide +kernel
theorem dX10_pieceOf_75 : decode cX10_pieceOf 75 = .ok (.getfield 23, 3) := by decide +kernel
theorem dX10_pieceOf_78 : decode cX10_pieceOf 78 = .ok (.getfield 300, 3) := by decide +kernel
theorem dX10_pieceOf_81 : decode cX10_pieceOf 81 = .ok (.iload_n 1, 1) := by decide +kernel
theorem dX10_pieceOf_82 : decode cX10_pieceOf 82 = .ok (.iaload, 1) := by decide +kernel
theorem dX10_pieceOf_83 : decode cX10_pieceOf 83 = .ok (.ireturn, 1) := by decide +kernel
theorem dX10_pieceOf_84 : decode cX10_pieceOf 84 = .ok (.aload_n 0, 1) := by decide +kernel
theorem dX10_pieceOf_85 : decode cX10_pieceOf 85 = .ok (.getfield 23, 3) := by decide +kernel
theorem dX10_pieceOf_88 : decode cX10_pieceOf 88 = .ok (.getfield 303, 3) := by decide +kernel
theorem dX10_pieceOf_91 : decode cX10_pieceOf 91 = .ok (.iload_n 1, 1) := by decide +kernel
theorem dX10_pieceOf_92 : decode cX10_pieceOf 92 = .ok (.iaload, 1) := by decide +kernel
theorem dX10_pieceOf_93 : decode cX10_pieceOf 93 = .ok (.ireturn, 1) := by decide +kernel
theorem dX10_pieceOf_94 : decode cX10_pieceOf 94 = .ok (.aload_n 0, 1) := by decide +kernel
theorem dX10_pieceOf_95 : decode cX10_pieceOf 95 = .ok (.getfield 23, 3) := by decide +kernel
theorem dX10_pieceOf_98 : decode cX10_pieceOf 98 = .ok (.getfield 306, 3) := by decide +kernel
theorem dX10_pieceOf_101 : decode cX10_pieceOf 101 = .ok (.iload_n 1, 1) := by decide +kernel
theorem dX10_pieceOf_102 : decode cX10_pieceOf 102 = .ok (.iaload, 1) := by decide +kernel
theorem dX10_pieceOf_103 : decode cX10_pieceOf 103 = .ok (.ireturn, 1) := by decide +kernel
theorem dX10_pieceOf_104 : decode cX10_pieceOf 104 = .ok (.aload_n 0, 1) := by decide +kernel
theorem dX10_pieceOf_105 : decode cX10_pieceOf 105 = .ok (.getfield 23, 3) := by decide +kernel
theorem dX10_pieceOf_108 : decode cX10_pieceOf 108 = .ok (.getfield 309, 3) := by decide +kernel
theorem dX10_pieceOf_111 : decode cX10_pieceOf 111 = .ok (.iload_n 1, 1) := by decide +kernel
theorem dX10_pieceOf_112 : decode cX10_pieceOf 112 = .ok (.iaload, 1) := by decide +kernel
theorem dX10_pieceOf_113 : decode cX10_pieceOf 113 = .ok (.ireturn, 1) := by decide +kernel
theorem dX10_pieceOf_114 : decode cX10_pieceOf 114 = .ok (.aload_n 0, 1) := by decide +kernel
theorem dX10_pieceOf_115 : decode cX10_pieceOf 115 = .ok (.getfield 23, 3) := by decide +kernel
theorem dX10_pieceOf_118 : decode cX10_pieceOf 118 = .ok (.getfield 310, 3) := by decide +kernel
theorem dX10_pieceOf_121 : decode cX10_pieceOf 121 = .ok (.iload_n 1, 1) := by decide +kernel
theorem dX10_pieceOf_122 : decode cX10_pieceOf 122 = .ok (.iaload, 1) := by decide +kernel
theorem dX10_pieceOf_123 : decode cX10_pieceOf 123 = .ok (.ireturn, 1) := by decide +kernel
theorem dX10_pieceOf_124 : decode cX10_pieceOf 124 = .ok (.aload_n 0, 1) := by decide +kernel
theorem dX10_pieceOf_125 : decode cX10_pieceOf 125 = .ok (.getfield 23, 3) := by decide +kernel
theorem dX10_pieceOf_128 : decode cX10_pieceOf 128 = .ok (.getfield 311, 3) := by decide +kernel
theorem dX10_pieceOf_131 : decode cX10_pieceOf 131 = .ok (.iload_n 1, 1) := by decide +kernel
theorem dX10_pieceOf_132 : decode cX10_pieceOf 132 = .ok (.iaload, 1) := by decide +kernel
theorem dX10_pieceOf_133 : decode cX10_pieceOf 133 = .ok (.ireturn, 1) := by decide +kernel
theorem dX10_pieceOf_134 : decode cX10_pieceOf 134 = .ok (.aload_n 0, 1) := by decide +kernel
theorem dX10_pieceOf_135 : decode cX10_pieceOf 135 = .ok (.bipush (-2), 2) := by decide +kernel
theorem dX10_pieceOf_137 : decode cX10_pieceOf 137 = .ok (.invokevirtual 91, 3) := by decide +kernel
theorem dX10_pieceOf_140 : decode cX10_pieceOf 140 = .ok (.ireturn, 1) := by decide +kernel
theorem dX10_count_0 : decode cX10_count 0 = .ok (.iload_n 1, 1) := by decide +kernel
theorem dX10_count_1 : decode cX10_count 1 = .ok (.iconst 3, 1) := by decide +kernel
theorem dX10_count_2 : decode cX10_count 2 = .ok (.if_icmp .lt 20, 3) := by decide +kernel
theorem dX10_count_5 : decode cX10_count 5 = .ok (.iload_n 1, 1) := by decide +kernel
theorem dX10_count_6 : decode cX10_count 6 = .ok (.bipush 7, 2) := by decide +kernel
theorem dX10_count_8 : decode cX10_count 8 = .ok (.if_icmp .gt 14, 3) := by decide +kernel
theorem dX10_count_11 : decode cX10_count 11 = .ok (.aload_n 0, 1) := by decide +kernel
theorem dX10_count_12 : decode cX10_count 12 = .ok (.getfield 23, 3) := by decide +kernel
theorem dX10_count_15 : decode cX10_count 15 = .ok (.iload_n 1, 1) := by decide +kernel
theorem dX10_count_16 : decode cX10_count 16 = .ok (.iconst 3, 1) := by decide +kernel
theorem dX10_count_17 : decode cX10_count 17 = .ok (.isub, 1) := by decide +kernel
theorem dX10_count_18 : decode cX10_count 18 = .ok (.invokevirtual 314, 3) := by decide +kernel
theorem dX10_count_21 : decode cX10_count 21 = .ok (.ireturn, 1) := by decide +kernel
theorem dX10_count_22 : decode cX10_count 22 = .ok (.iload_n 1, 1) := by decide +kernel
theorem dX10_count_23 : decode cX10_count 23 = .ok (.bipush 11, 2) := by decide +kernel
theorem dX10_count_25 : decode cX10_count 25 = .ok (.if_icmp .lt 19, 3) := by decide +kernel
theorem dX10_count_28 : decode cX10_count 28 = .ok (.iload_n 1, 1) := by decide +kernel
theorem dX10_count_29 : decode cX10_count 29 = .ok (.bipush 16, 2) := by decide +kernel
theorem dX10_count_31 : decode cX10_count 31 = .ok (.if_icmp .gt 13, 3) := by decide +kernel
theorem dX10_count_34 : decode cX10_count 34 = .ok (.aload_n 0, 1) := by decide +kernel
theorem dX10_count_35 : decode cX10_count 35 = .ok (.getfield 9, 3) := by decide +kernel
theorem dX10_count_38 : decode cX10_count 38 = .ok (.iload_n 1, 1) := by decide +kernel
theorem dX10_count_39 : decode cX10_count 39 = .ok (.bipush 11, 2) := by decide +kernel
theorem dX10_count_41 : decode cX10_count 41 = .ok (.isub, 1) := by decide +kernel
theorem dX10_count_42 : decode cX10_count 42 = .ok (.iaload, 1) := by decide +kernel
theorem dX10_count_43 : decode cX10_count 43 = .ok (.ireturn, 1) := by decide +kernel
theorem dX10_count_44 : decode cX10_count 44 = .ok (.iload_n 1, 1) := by decide +kernel
theorem dX10_count_45 : decode cX10_count 45 = .ok (.bipush 20, 2) := by decide +kernel
theorem dX10_count_47 : decode cX10_count 47 = .ok (.if_icmp .lt 38, 3) := by decide +kernel
theorem dX10_count_50 : decode cX10_count 50 = .ok (.iload_n 1, 1) := by decide +kernel
theorem dX10_count_51 : decode cX10_count 51 = .ok (.bipush 20, 2) := by decide +kernel
theorem dX10_count_53 : decode cX10_count 53 = .ok (.isub, 1) := by decide +kernel
theorem dX10_count_54 : decode cX10_count 54 = .ok (.aload_n 0, 1) := by decide +kernel
theorem dX10_count_55 : decode cX10_count 55 = .ok (.getfield 16, 3) := by decide +kernel
theorem dX10_count_58 : decode cX10_count 58 = .ok (.getfield 102, 3) := by decide +kernel
theorem dX10_count_61 : decode cX10_count 61 = .ok (.invokestatic 87, 3) := by decide +kernel
theorem dX10_count_64 : decode cX10_count 64 = .ok (.ifCond .eq 18, 3) := by decide +kernel
theorem dX10_count_67 : decode cX10_count 67 = .ok (.aload_n 0, 1) := by decide +kernel
theorem dX10_count_68 : decode cX10_count 68 = .ok (.getfield 16, 3) := by decide +kernel
theorem dX10_count_71 : decode cX10_count 71 = .ok (.getfield 115, 3) := by decide +kernel
theorem dX10_count_74 : decode cX10_count 74 = .ok (.iload_n 1, 1) := by decide +kernel
theorem dX10_count_75 : decode cX10_count 75 = .ok (.bipush 20, 2) := by decide +kernel
theorem dX10_count_77 : decode cX10_count 77 = .ok (.isub, 1) := by decide +kernel
theorem dX10_count_78 : decode cX10_count 78 = .ok (.iaload, 1) := by decide +kernel
theorem dX10_count_79 : decode cX10_count 79 = .ok (.goto 5, 3) := by decide +kernel
theorem dX10_count_82 : decode cX10_count 82 = .ok (.bipush (-9), 2) := by decide +kernel
theorem dX10_count_84 : decode cX10_count 84 = .ok (.ireturn, 1) := by decide +kernel
theorem dX10_count_85 : decode cX10_count 85 = .ok (.iload_n 1, 1) := by decide +kernel
theorem dX10_count_86 : decode cX10_count 86 = .ok (.tableswitch 103 0 10 #[58, 63, 71, 103, 103, 103, 103, 103, 79, 87, 95], 58) := by decide +kernel
theorem dX10_count_144 : decode cX10_count 144 = .ok (.aload_n 0, 1) := by decide +kernel
theorem dX10_count_145 : decode cX10_count 145 = .ok (.getfield 83, 3) := by decide +kernel
theorem dX10_count_148 : decode cX10_count 148 = .ok (.ireturn, 1) := by decide +kernel
theorem dX10_count_149 : decode cX10_count 149 = .ok (.aload_n 0, 1) := by decide +kernel
theorem dX10_count_150 : decode cX10_count 150 = .ok (.getfield 16, 3) := by decide +kernel
theorem dX10_count_153 : decode cX10_count 153 = .ok (.getfield 102, 3) := by decide +kernel
theorem dX10_count_156 : decode cX10_count 156 = .ok (.ireturn, 1) := by decide +kernel
theorem dX10_count_157 : decode cX10_count 157 = .ok (.aload_n 0, 1) := by decide +kernel
theorem dX10_count_158 : decode cX10_count 158 = .ok (.getfield 23, 3) := by decide +kernel
theorem dX10_count_161 : decode cX10_count 161 = .ok (.getfield 118, 3) := by decide +kernel
theorem dX10_count_164 : decode cX10_count 164 = .ok (.ireturn, 1) := by decide +kernel
theorem dX10_count_165 : decode cX10_count 165 = .ok (.aload_n 0, 1) := by decide +kernel
theorem dX10_count_166 : decode cX10_count 166 = .ok (.getfield 30, 3) := by decide +kernel
theorem dX10_count_169 : decode cX10_count 169 = .ok (.getfield 134, 3) := by decide +kernel
theorem dX10_count_172 : decode cX10_count 172 = .ok (.ireturn, 1) := by decide +kernel
theorem dX10_count_173 : decode cX10_count 173 = .ok (.aload_n 0, 1) := by decide +kernel
theorem dX10_count_174 : decode cX10_count 174 = .ok (.getfield 30, 3) := by decide +kernel
theorem dX10_count_177 : decode cX10_count 177 = .ok (.getfield 317, 3) := by decide +kernel
theorem dX10_count_180 : decode cX10_count 180 = .ok (.ireturn, 1) := by decide +kernel
theorem dX10_count_181 : decode cX10_count 181 = .ok (.aload_n 0, 1) := by decide +kernel
theorem dX10_count_182 : decode cX10_count 182 = .ok (.getfield 72, 3) := by decide +kernel
theorem dX10_count_185 : decode cX10_count 185 = .ok (.getfield 268, 3) := by decide +kernel
theorem dX10_count_188 : decode cX10_count 188 = .ok (.ireturn, 1) := by decide +kernel
theorem dX10_count_189 : decode cX10_count 189 = .ok (.bipush (-9), 2) := by decide +kernel
theorem dX10_count_191 : decode cX10_count 191 = .ok (.ireturn, 1) := by decide +kernel
theorem dX10_within_0 : decode cX10_within 0 = .ok (.iload_n 0, 1) := by decide +kernel
theorem dX10_within_1 : decode cX10_within 1 = .ok (.ifCond .lt 12, 3) := by decide +kernel
theorem dX10_within_4 : decode cX10_within 4 = .ok (.iload_n 0, 1) := by decide +kernel
theorem dX10_within_5 : decode cX10_within 5 = .ok (.iload_n 1, 1) := by decide +kernel
theorem dX10_within_6 : decode cX10_within 6 = .ok (.if_icmp .ge 7, 3) := by decide +kernel
theorem dX10_within_9 : decode cX10_within 9 = .ok (.iconst 1, 1) := by decide +kernel
theorem dX10_within_10 : decode cX10_within 10 = .ok (.goto 4, 3) := by decide +kernel
theorem dX10_within_13 : decode cX10_within 13 = .ok (.iconst 0, 1) := by decide +kernel
theorem dX10_within_14 : decode cX10_within 14 = .ok (.ireturn, 1) := by decide +kernel
theorem dX10_isColourSet_0 : decode cX10_isColourSet 0 = .ok (.iload_n 0, 1) := by decide +kernel
theorem dX10_isColourSet_1 : decode cX10_isColourSet 1 = .ok (.sipush (-4096), 3) := by decide +kernel
theorem dX10_isColourSet_4 : decode cX10_isColourSet 4 = .ok (.iand, 1) := by decide +kernel
theorem dX10_isColourSet_5 : decode cX10_isColourSet 5 = .ok (.ifCond .ne 7, 3) := by decide +kernel
theorem dX10_isColourSet_8 : decode cX10_isColourSet 8 = .ok (.iconst 1, 1) := by decide +kernel
theorem dX10_isColourSet_9 : decode cX10_isColourSet 9 = .ok (.goto 4, 3) := by decide +kernel
theorem dX10_isColourSet_12 : decode cX10_isColourSet 12 = .ok (.iconst 0, 1) := by decide +kernel
theorem dX10_isColourSet_13 : decode cX10_isColourSet 13 = .ok (.ireturn, 1) := by decide +kernel
theorem dX10_refuse_0 : decode cX10_refuse 0 = .ok (.iconst (-1), 1) := by decide +kernel
theorem dX10_refuse_1 : decode cX10_refuse 1 = .ok (.iload_n 1, 1) := by decide +kernel
theorem dX10_refuse_2 : decode cX10_refuse 2 = .ok (.isub, 1) := by decide +kernel
theorem dX10_refuse_3 : decode cX10_refuse 3 = .ok (.istore_n 2, 1) := by decide +kernel
theorem dX10_refuse_4 : decode cX10_refuse 4 = .ok (.iload_n 2, 1) := by decide +kernel
theorem dX10_refuse_5 : decode cX10_refuse 5 = .ok (.bipush 6, 2) := by decide +kernel
theorem dX10_refuse_7 : decode cX10_refuse 7 = .ok (.invokestatic 87, 3) := by decide +kernel
theorem dX10_refuse_10 : decode cX10_refuse 10 = .ok (.ifCond .eq 13, 3) := by decide +kernel
theorem dX10_refuse_13 : decode cX10_refuse 13 = .ok (.aload_n 0, 1) := by decide +kernel
theorem dX10_refuse_14 : decode cX10_refuse 14 = .ok (.getfield 9, 3) := by decide +kernel
theorem dX10_refuse_17 : decode cX10_refuse 17 = .ok (.iload_n 2, 1) := by decide +kernel
theorem dX10_refuse_18 : decode cX10_refuse 18 = .ok (.dup2, 1) := by decide +kernel
theorem dX10_refuse_19 : decode cX10_refuse 19 = .ok (.iaload, 1) := by decide +kernel
theorem dX10_refuse_20 : decode cX10_refuse 20 = .ok (.iconst 1, 1) := by decide +kernel
theorem dX10_refuse_21 : decode cX10_refuse 21 = .ok (.iadd, 1) := by decide +kernel
theorem dX10_refuse_22 : decode cX10_refuse 22 = .ok (.iastore, 1) := by decide +kernel
theorem dX10_refuse_23 : decode cX10_refuse 23 = .ok (.iload_n 1, 1) := by decide +kernel
theorem dX10_refuse_24 : decode cX10_refuse 24 = .ok (.ireturn, 1) := by decide +kernel
theorem dX10_serviceRefusal_0 : decode cX10_serviceRefusal 0 = .ok (.iload_n 0, 1) := by decide +kernel
theorem dX10_serviceRefusal_1 : decode cX10_serviceRefusal 1 = .ok (.bipush 10, 2) := by decide +kernel
theorem dX10_serviceRefusal_3 : decode cX10_serviceRefusal 3 = .ok (.invokestatic 87, 3) := by decide +kernel
theorem dX10_serviceRefusal_6 : decode cX10_serviceRefusal 6 = .ok (.ifCond .ne 5, 3) := by decide +kernel
theorem dX10_serviceRefusal_9 : decode cX10_serviceRefusal 9 = .ok (.iconst (-1), 1) := by decide +kernel
theorem dX10_serviceRefusal_10 : decode cX10_serviceRefusal 10 = .ok (.ireturn, 1) := by decide +kernel
theorem dX10_serviceRefusal_11 : decode cX10_serviceRefusal 11 = .ok (.iload_n 1, 1) := by decide +kernel
theorem dX10_serviceRefusal_12 : decode cX10_serviceRefusal 12 = .ok (.iconst 1, 1) := by decide +kernel
theorem dX10_serviceRefusal_13 : decode cX10_serviceRefusal 13 = .ok (.if_icmp .lt 7, 3) := by decide +kernel
theorem dX10_serviceRefusal_16 : decode cX10_serviceRefusal 16 = .ok (.iload_n 2, 1) := by decide +kernel
theorem dX10_serviceRefusal_17 : decode cX10_serviceRefusal 17 = .ok (.ifCond .ge 6, 3) := by decide +kernel
theorem dX10_serviceRefusal_20 : decode cX10_serviceRefusal 20 = .ok (.bipush (-4), 2) := by decide +kernel
theorem dX10_serviceRefusal_22 : decode cX10_serviceRefusal 22 = .ok (.ireturn, 1) := by decide +kernel
theorem dX10_serviceRefusal_23 : decode cX10_serviceRefusal 23 = .ok (.iload_n 1, 1) := by decide +kernel
theorem dX10_serviceRefusal_24 : decode cX10_serviceRefusal 24 = .ok (.bipush 12, 2) := by decide +kernel
theorem dX10_serviceRefusal_26 : decode cX10_serviceRefusal 26 = .ok (.if_icmp .gt 9, 3) := by decide +kernel
theorem dX10_serviceRefusal_29 : decode cX10_serviceRefusal 29 = .ok (.iload_n 2, 1) := by decide +kernel
theorem dX10_serviceRefusal_30 : decode cX10_serviceRefusal 30 = .ok (.bipush 100, 2) := by decide +kernel
theorem dX10_serviceRefusal_32 : decode cX10_serviceRefusal 32 = .ok (.if_icmp .le 6, 3) := by decide +kernel
theorem dX10_serviceRefusal_35 : decode cX10_serviceRefusal 35 = .ok (.bipush (-6), 2) := by decide +kernel
theorem dX10_serviceRefusal_37 : decode cX10_serviceRefusal 37 = .ok (.ireturn, 1) := by decide +kernel
theorem dX10_serviceRefusal_38 : decode cX10_serviceRefusal 38 = .ok (.iconst 0, 1) := by decide +kernel
theorem dX10_serviceRefusal_39 : decode cX10_serviceRefusal 39 = .ok (.ireturn, 1) := by decide +kernel
theorem dX10_pass_0 : decode cX10_pass 0 = .ok (.aload_n 0, 1) := by decide +kernel
theorem dX10_pass_1 : decode cX10_pass 1 = .ok (.getfield 79, 3) := by decide +kernel
theorem dX10_pass_4 : decode cX10_pass 4 = .ok (.aload_n 0, 1) := by decide +kernel
theorem dX10_pass_5 : decode cX10_pass 5 = .ok (.getfield 83, 3) := by decide +kernel
theorem dX10_pass_8 : decode cX10_pass 8 = .ok (.iload_n 1, 1) := by decide +kernel
theorem dX10_pass_9 : decode cX10_pass 9 = .ok (.invokevirtual 320, 3) := by decide +kernel
theorem dX10_pass_12 : decode cX10_pass 12 = .ok (.aload_n 0, 1) := by decide +kernel
theorem dX10_pass_13 : decode cX10_pass 13 = .ok (.dup, 1) := by decide +kernel
theorem dX10_pass_14 : decode cX10_pass 14 = .ok (.getfield 83, 3) := by decide +kernel
theorem dX10_pass_17 : decode cX10_pass 17 = .ok (.iload_n 1, 1) := by decide +kernel
theorem dX10_pass_18 : decode cX10_pass 18 = .ok (.iadd, 1) := by decide +kernel
theorem dX10_pass_19 : decode cX10_pass 19 = .ok (.putfield 83, 3) := by decide +kernel
theorem dX10_pass_22 : decode cX10_pass 22 = .ok (.return_, 1) := by decide +kernel
theorem dX10_isLoose_0 : decode cX10_isLoose 0 = .ok (.aload_n 0, 1) := by decide +kernel
theorem dX10_isLoose_1 : decode cX10_isLoose 1 = .ok (.getfield 23, 3) := by decide +kernel
theorem dX10_isLoose_4 : decode cX10_isLoose 4 = .ok (.getfield 232, 3) := by decide +kernel
theorem dX10_isLoose_7 : decode cX10_isLoose 7 = .ok (.iload_n 1, 1) := by decide +kernel
theorem dX10_isLoose_8 : decode cX10_isLoose 8 = .ok (.iaload, 1) := by decide +kernel
theorem dX10_isLoose_9 : decode cX10_isLoose 9 = .ok (.ifCond .ne 32, 3) := by decide +kernel
theorem dX10_isLoose_12 : decode cX10_isLoose 12 = .ok (.aload_n 0, 1) := by decide +kernel
theorem dX10_isLoose_13 : decode cX10_isLoose 13 = .ok (.getfield 23, 3) := by decide +kernel
theorem dX10_isLoose_16 : decode cX10_isLoose 16 = .ok (.getfield 309, 3) := by decide +kernel
theorem dX10_isLoose_19 : decode cX10_isLoose 19 = .ok (.iload_n 1, 1) := by decide +kernel
theorem dX10_isLoose_20 : decode cX10_isLoose 20 = .ok (.iaload, 1) := by decide +kernel
theorem dX10_isLoose_21 : decode cX10_isLoose 21 = .ok (.bipush (-9), 2) := by decide +kernel
theorem dX10_isLoose_23 : decode cX10_isLoose 23 = .ok (.if_icmp .ne 18, 3) := by decide +kernel
theorem dX10_isLoose_26 : decode cX10_isLoose 26 = .ok (.aload_n 0, 1) := by decide +kernel
theorem dX10_isLoose_27 : decode cX10_isLoose 27 = .ok (.getfield 37, 3) := by decide +kernel
theorem dX10_isLoose_30 : decode cX10_isLoose 30 = .ok (.iload_n 1, 1) := by decide +kernel
theorem dX10_isLoose_31 : decode cX10_isLoose 31 = .ok (.invokevirtual 322, 3) := by decide +kernel
theorem dX10_isLoose_34 : decode cX10_isLoose 34 = .ok (.ifCond .ne 7, 3) := by decide +kernel
theorem dX10_isLoose_37 : decode cX10_isLoose 37 = .ok (.iconst 1, 1) := by decide +kernel
theorem dX10_isLoose_38 : decode cX10_isLoose 38 = .ok (.goto 4, 3) := by decide +kernel
theorem dX10_isLoose_41 : decode cX10_isLoose 41 = .ok (.iconst 0, 1) := by decide +kernel
theorem dX10_isLoose_42 : decode cX10_isLoose 42 = .ok (.ireturn, 1) := by decide +kernel
theorem dX10_putIn_0 : decode cX10_putIn 0 = .ok (.aload_n 0, 1) := by decide +kernel
theorem dX10_putIn_1 : decode cX10_putIn 1 = .ok (.getfield 30, 3) := by decide +kernel
theorem dX10_putIn_4 : decode cX10_putIn 4 = .ok (.getfield 157, 3) := by decide +kernel
theorem dX10_putIn_7 : decode cX10_putIn 7 = .ok (.iload_n 2, 1) := by decide +kernel
theorem dX10_putIn_8 : decode cX10_putIn 8 = .ok (.iload_n 1, 1) := by decide +kernel
theorem dX10_putIn_9 : decode cX10_putIn 9 = .ok (.iastore, 1) := by decide +kernel
theorem dX10_putIn_10 : decode cX10_putIn 10 = .ok (.aload_n 0, 1) := by decide +kernel
theorem dX10_putIn_11 : decode cX10_putIn 11 = .ok (.getfield 23, 3) := by decide +kernel
theorem dX10_putIn_14 : decode cX10_putIn 14 = .ok (.getfield 309, 3) := by decide +kernel
theorem dX10_putIn_17 : decode cX10_putIn 17 = .ok (.iload_n 1, 1) := by decide +kernel
theorem dX10_putIn_18 : decode cX10_putIn 18 = .ok (.iload_n 2, 1) := by decide +kernel
theorem dX10_putIn_19 : decode cX10_putIn 19 = .ok (.iastore, 1) := by decide +kernel
theorem dX10_putIn_20 : decode cX10_putIn 20 = .ok (.return_, 1) := by decide +kernel
theorem dX10_takeOut_0 : decode cX10_takeOut 0 = .ok (.aload_n 0, 1) := by decide +kernel
theorem dX10_takeOut_1 : decode cX10_takeOut 1 = .ok (.getfield 30, 3) := by decide +kernel
theorem dX10_takeOut_4 : decode cX10_takeOut 4 = .ok (.getfield 157, 3) := by decide +kernel
theorem dX10_takeOut_7 : decode cX10_takeOut 7 = .ok (.iload_n 2, 1) := by decide +kernel
theorem dX10_takeOut_8 : decode cX10_takeOut 8 = .ok (.bipush (-9), 2) := by decide +kernel
theorem dX10_takeOut_10 : decode cX10_takeOut 10 = .ok (.iastore, 1) := by decide +kernel
theorem dX10_takeOut_11 : decode cX10_takeOut 11 = .ok (.aload_n 0, 1) := by decide +kernel
theorem dX10_takeOut_12 : decode cX10_takeOut 12 = .ok (.getfield 23, 3) := by decide +kernel
theorem dX10_takeOut_15 : decode cX10_takeOut 15 = .ok (.getfield 309, 3) := by decide +kernel
theorem dX10_takeOut_18 : decode cX10_takeOut 18 = .ok (.iload_n 1, 1) := by decide +kernel
theorem dX10_takeOut_19 : decode cX10_takeOut 19 = .ok (.bipush (-9), 2) := by decide +kernel
theorem dX10_takeOut_21 : decode cX10_takeOut 21 = .ok (.iastore, 1) := by decide +kernel
theorem dX10_takeOut_22 : decode cX10_takeOut 22 = .ok (.return_, 1) := by decide +kernel
theorem dX10_learnFits_0 : decode cX10_learnFits 0 = .ok (.aload_n 0, 1) := by decide +kernel
theorem dX10_learnFits_1 : decode cX10_learnFits 1 = .ok (.getfield 30, 3) := by decide +kernel
theorem dX10_learnFits_4 : decode cX10_learnFits 4 = .ok (.aload_n 0, 1) := by decide +kernel
theorem dX10_learnFits_5 : decode cX10_learnFits 5 = .ok (.getfield 30, 3) := by decide +kernel
theorem dX10_learnFits_8 : decode cX10_learnFits 8 = .ok (.getfield 134, 3) := by decide +kernel
theorem dX10_learnFits_11 : decode cX10_learnFits 11 = .ok (.invokevirtual 144, 3) := by decide +kernel
theorem dX10_learnFits_14 : decode cX10_learnFits 14 = .ok (.iconst 0, 1) := by decide +kernel
theorem dX10_learnFits_15 : decode cX10_learnFits 15 = .ok (.istore_n 1, 1) := by decide +kernel
theorem dX10_learnFits_16 : decode cX10_learnFits 16 = .ok (.iload_n 1, 1) := by decide +kernel
theorem dX10_learnFits_17 : decode cX10_learnFits 17 = .ok (.aload_n 0, 1) := by decide +kernel
theorem dX10_learnFits_18 : decode cX10_learnFits 18 = .ok (.getfield 37, 3) := by decide +kernel
theorem dX10_learnFits_21 : decode cX10_learnFits 21 = .ok (.getfield 174, 3) := by decide +kernel
theorem dX10_learnFits_24 : decode cX10_learnFits 24 = .ok (.if_icmp .ge 39, 3) := by decide +kernel
theorem dX10_learnFits_27 : decode cX10_learnFits 27 = .ok (.aload_n 0, 1) := by decide +kernel
theorem dX10_learnFits_28 : decode cX10_learnFits 28 = .ok (.getfield 37, 3) := by decide +kernel
theorem dX10_learnFits_31 : decode cX10_learnFits 31 = .ok (.getfield 325, 3) := by decide +kernel
theorem dX10_learnFits_34 : decode cX10_learnFits 34 = .ok (.iload_n 1, 1) := by decide +kernel
theorem dX10_learnFits_35 : decode cX10_learnFits 35 = .ok (.aload_n 0, 1) := by decide +kernel
theorem dX10_learnFits_36 : decode cX10_learnFits 36 = .ok (.aload_n 0, 1) := by decide +kernel
theorem dX10_learnFits_37 : decode cX10_learnFits 37 = .ok (.getfield 23, 3) := by decide +kernel
theorem dX10_learnFits_40 : decode cX10_learnFits 40 = .ok (.getfield 306, 3) := by decide +kernel
theorem dX10_learnFits_43 : decode cX10_learnFits 43 = .ok (.aload_n 0, 1) := by decide +kernel
theorem dX10_learnFits_44 : decode cX10_learnFits 44 = .ok (.getfield 37, 3) := by decide +kernel
theorem dX10_learnFits_47 : decode cX10_learnFits 47 = .ok (.getfield 193, 3) := by decide +kernel
theorem dX10_learnFits_50 : decode cX10_learnFits 50 = .ok (.iload_n 1, 1) := by decide +kernel
theorem dX10_learnFits_51 : decode cX10_learnFits 51 = .ok (.iaload, 1) := by decide +kernel
theorem dX10_learnFits_52 : decode cX10_learnFits 52 = .ok (.iaload, 1) := by decide +kernel
theorem dX10_learnFits_53 : decode cX10_learnFits 53 = .ok (.invokevirtual 328, 3) := by decide +kernel
theorem dX10_learnFits_56 : decode cX10_learnFits 56 = .ok (.iastore, 1) := by decide +kernel
theorem dX10_learnFits_57 : decode cX10_learnFits 57 = .ok (.iinc 1 1, 3) := by decide +kernel
theorem dX10_learnFits_60 : decode cX10_learnFits 60 = .ok (.goto (-44), 3) := by decide +kernel
theorem dX10_learnFits_63 : decode cX10_learnFits 63 = .ok (.return_, 1) := by decide +kernel
theorem dX10_placesThatFire_0 : decode cX10_placesThatFire 0 = .ok (.iconst 0, 1) := by decide +kernel
theorem dX10_placesThatFire_1 : decode cX10_placesThatFire 1 = .ok (.istore_n 2, 1) := by decide +kernel
theorem dX10_placesThatFire_2 : decode cX10_placesThatFire 2 = .ok (.iconst 0, 1) := by decide +kernel
theorem dX10_placesThatFire_3 : decode cX10_placesThatFire 3 = .ok (.istore_n 3, 1) := by decide +kernel
theorem dX10_placesThatFire_4 : decode cX10_placesThatFire 4 = .ok (.iload_n 3, 1) := by decide +kernel
theorem dX10_placesThatFire_5 : decode cX10_placesThatFire 5 = .ok (.bipush 12, 2) := by decide +kernel
theorem dX10_placesThatFire_7 : decode cX10_placesThatFire 7 = .ok (.if_icmp .ge 49, 3) := by decide +kernel
theorem dX10_placesThatFire_10 : decode cX10_placesThatFire 10 = .ok (.aload_n 0, 1) := by decide +kernel
theorem dX10_placesThatFire_11 : decode cX10_placesThatFire 11 = .ok (.getfield 30, 3) := by decide +kernel
theorem dX10_placesThatFire_14 : decode cX10_placesThatFire 14 = .ok (.getfield 157, 3) := by decide +kernel
theorem dX10_placesThatFire_17 : decode cX10_placesThatFire 17 = .ok (.iload_n 3, 1) := by decide +kernel
theorem dX10_placesThatFire_18 : decode cX10_placesThatFire 18 = .ok (.iaload, 1) := by decide +kernel
theorem dX10_placesThatFire_19 : decode cX10_placesThatFire 19 = .ok (.bipush (-9), 2) := by decide +kernel
theorem dX10_placesThatFire_21 : decode cX10_placesThatFire 21 = .ok (.if_icmp .ne 29, 3) := by decide +kernel
theorem dX10_placesThatFire_24 : decode cX10_placesThatFire 24 = .ok (.aload_n 0, 1) := by decide +kernel
theorem dX10_placesThatFire_25 : decode cX10_placesThatFire 25 = .ok (.getfield 16, 3) := by decide +kernel
theorem dX10_placesThatFire_28 : decode cX10_placesThatFire 28 = .ok (.iload_n 1, 1) := by decide +kernel
theorem dX10_placesThatFire_29 : decode cX10_placesThatFire 29 = .ok (.aload_n 0, 1) := by decide +kernel
theorem dX10_placesThatFire_30 : decode cX10_placesThatFire 30 = .ok (.getfield 30, 3) := by decide +kernel
theorem dX10_placesThatFire_33 : decode cX10_placesThatFire 33 = .ok (.getfield 147, 3) := by decide +kernel
theorem dX10_placesThatFire_36 : decode cX10_placesThatFire 36 = .ok (.iload_n 3, 1) := by decide +kernel
theorem dX10_placesThatFire_37 : decode cX10_placesThatFire 37 = .ok (.iaload, 1) := by decide +kernel
theorem dX10_placesThatFire_38 : decode cX10_placesThatFire 38 = .ok (.invokevirtual 331, 3) := by decide +kernel
theorem dX10_placesThatFire_41 : decode cX10_placesThatFire 41 = .ok (.ifCond .eq 9, 3) := by decide +kernel
theorem dX10_placesThatFire_44 : decode cX10_placesThatFire 44 = .ok (.iload_n 2, 1) := by decide +kernel
theorem dX10_placesThatFire_45 : decode cX10_placesThatFire 45 = .ok (.iconst 1, 1) := by decide +kernel
theorem dX10_placesThatFire_46 : decode cX10_placesThatFire 46 = .ok (.iload_n 3, 1) := by decide +kernel
theorem dX10_placesThatFire_47 : decode cX10_placesThatFire 47 = .ok (.ishl, 1) := by decide +kernel
theorem dX10_placesThatFire_48 : decode cX10_placesThatFire 48 = .ok (.ior, 1) := by decide +kernel
theorem dX10_placesThatFire_49 : decode cX10_placesThatFire 49 = .ok (.istore_n 2, 1) := by decide +kernel
theorem dX10_placesThatFire_50 : decode cX10_placesThatFire 50 = .ok (.iinc 3 1, 3) := by decide +kernel
theorem dX10_placesThatFire_53 : decode cX10_placesThatFire 53 = .ok (.goto (-49), 3) := by decide +kernel
theorem dX10_placesThatFire_56 : decode cX10_placesThatFire 56 = .ok (.iload_n 2, 1) := by decide +kernel
theorem dX10_placesThatFire_57 : decode cX10_placesThatFire 57 = .ok (.ireturn, 1) := by decide +kernel
end
section
theorem dX11_init_0 : decode cX11_init 0 = .ok (.aload_n 0, 1) := by decide +kernel
theorem dX11_init_1 : decode cX11_init 1 = .ok (.invokespecial 1, 3) := by decide +kernel
theorem dX11_init_4 : decode cX11_init 4 = .ok (.aload_n 0, 1) := by decide +kernel
theorem dX11_init_5 : decode cX11_init 5 = .ok (.bipush 7, 2) := by decide +kernel
theorem dX11_init_7 : decode cX11_init 7 = .ok (.newarray .int, 2) := by decide +kernel
theorem dX11_init_9 : decode cX11_init 9 = .ok (.putfield 7, 3) := by decide +kernel
theorem dX11_init_12 : decode cX11_init 12 = .ok (.aload_n 0, 1) := by decide +kernel
theorem dX11_init_13 : decode cX11_init 13 = .ok (.bipush 24, 2) := by decide +kernel
theorem dX11_init_15 : decode cX11_init 15 = .ok (.newarray .int, 2) := by decide +kernel
theorem dX11_init_17 : decode cX11_init 17 = .ok (.putfield 13, 3) := by decide +kernel
theorem dX11_init_20 : decode cX11_init 20 = .ok (.aload_n 0, 1) := by decide +kernel
theorem dX11_init_21 : decode cX11_init 21 = .ok (.bipush 20, 2) := by decide +kernel
theorem dX11_init_23 : decode cX11_init 23 = .ok (.newarray .int, 2) := by decide +kernel
theorem dX11_init_25 : decode cX11_init 25 = .ok (.putfield 16, 3) := by decide +kernel
theorem dX11_init_28 : decode cX11_init 28 = .ok (.aload_n 0, 1) := by decide +kernel
theorem dX11_init_29 : decode cX11_init 29 = .ok (.bipush 20, 2) := by decide +kernel
theorem dX11_init_31 : decode cX11_init 31 = .ok (.newarray .int, 2) := by decide +kernel
theorem dX11_init_33 : decode cX11_init 33 = .ok (.putfield 19, 3) := by decide +kernel
theorem dX11_init_36 : decode cX11_init 36 = .ok (.aload_n 0, 1) := by decide +kernel
theorem dX11_init_37 : decode cX11_init 37 = .ok (.bipush 20, 2) := by decide +kernel
theorem dX11_init_39 : decode cX11_init 39 = .ok (.newarray .int, 2) := by decide +kernel
theorem dX11_init_41 : decode cX11_init 41 = .ok (.putfield 22, 3) := by decide +kernel
theorem dX11_init_44 : decode cX11_init 44 = .ok (.aload_n 0, 1) := by decide +kernel
theorem dX11_init_45 : decode cX11_init 45 = .ok (.bipush 80, 2) := by decide +kernel
theorem dX11_init_47 : decode cX11_init 47 = .ok (.newarray .int, 2) := by decide +kernel
theorem dX11_init_49 : decode cX11_init 49 = .ok (.putfield 25, 3) := by decide +kernel
theorem dX11_init_52 : decode cX11_init 52 = .ok (.aload_n 0, 1) := by decide +kernel
theorem dX11_init_53 : decode cX11_init 53 = .ok (.bipush 80, 2) := by decide +kernel
theorem dX11_init_55 : decode cX11_init 55 = .ok (.newarray .int, 2) := by decide +kernel
theorem dX11_init_57 : decode cX11_init 57 = .ok (.putfield 28, 3) := by decide +kernel
theorem dX11_init_60 : decode cX11_init 60 = .ok (.aload_n 0, 1) := by decide +kernel
theorem dX11_init_61 : decode cX11_init 61 = .ok (.bipush 80, 2) := by decide +kernel
theorem dX11_init_63 : decode cX11_init 63 = .ok (.newarray .int, 2) := by decide +kernel
theorem dX11_init_65 : decode cX11_init 65 = .ok (.putfield 31, 3) := by decide +kernel
theorem dX11_init_68 : decode cX11_init 68 = .ok (.aload_n 0, 1) := by decide +kernel
theorem dX11_init_69 : decode cX11_init 69 = .ok (.bipush 80, 2) := by decide +kernel
theorem dX11_init_71 : decode cX11_init 71 = .ok (.newarray .int, 2) := by decide +kernel
theorem dX11_init_73 : decode cX11_init 73 = .ok (.putfield 34, 3) := by decide +kernel
theorem dX11_init_76 : decode cX11_init 76 = .ok (.aload_n 0, 1) := by decide +kernel
theorem dX11_init_77 : decode cX11_init 77 = .ok (.bipush 80, 2) := by decide +kernel
theorem dX11_init_79 : decode cX11_init 79 = .ok (.newarray .int, 2) := by decide +kernel
theorem dX11_init_81 : decode cX11_init 81 = .ok (.putfield 37, 3) := by decide +kernel
theorem dX11_init_84 : decode cX11_init 84 = .ok (.aload_n 0, 1) := by decide +kernel
theorem dX11_init_85 : decode cX11_init 85 = .ok (.bipush 80, 2) := by decide +kernel
theorem dX11_init_87 : decode cX11_init 87 = .ok (.newarray .int, 2) := by decide +kernel
theorem dX11_init_89 : decode cX11_init 89 = .ok (.putfield 40, 3) := by decide +kernel
theorem dX11_init_92 : decode cX11_init 92 = .ok (.aload_n 0, 1) := by decide +kernel
theorem dX11_init_93 : decode cX11_init 93 = .ok (.bipush 80, 2) := by decide +kernel
theorem dX11_init_95 : decode cX11_init 95 = .ok (.newarray .int, 2) := by decide +kernel
theorem dX11_init_97 : decode cX11_init 97 = .ok (.putfield 43, 3) := by decide +kernel
theorem dX11_init_100 : decode cX11_init 100 = .ok (.aload_n 0, 1) := by decide +kernel
theorem dX11_init_101 : decode cX11_init 101 = .ok (.bipush 12, 2) := by decide +kernel
theorem dX11_init_103 : decode cX11_init 103 = .ok (.newarray .int, 2) := by decide +kernel
theorem dX11_init_105 : decode cX11_init 105 = .ok (.putfield 46, 3) := by decide +kernel
theorem dX11_init_108 : decode cX11_init 108 = .ok (.aload_n 0, 1) := by decide +kernel
theorem dX11_init_109 : decode cX11_init 109 = .ok (.bipush 12, 2) := by decide +kernel
theorem dX11_init_111 : decode cX11_init 111 = .ok (.newarray .int, 2) := by decide +kernel
theorem dX11_init_113 : decode cX11_init 113 = .ok (.putfield 49, 3) := by decide +kernel
theorem dX11_init_116 : decode cX11_init 116 = .ok (.aload_n 0, 1) := by decide +kernel
theorem dX11_init_117 : decode cX11_init 117 = .ok (.bipush 12, 2) := by decide +kernel
theorem dX11_init_119 : decode cX11_init 119 = .ok (.newarray .int, 2) := by decide +kernel
theorem dX11_init_121 : decode cX11_init 121 = .ok (.putfield 52, 3) := by decide +kernel
theorem dX11_init_124 : decode cX11_init 124 = .ok (.aload_n 0, 1) := by decide +kernel
theorem dX11_init_125 : decode cX11_init 125 = .ok (.bipush 48, 2) := by decide +kernel
theorem dX11_init_127 : decode cX11_init 127 = .ok (.newarray .int, 2) := by decide +kernel
theorem dX11_init_129 : decode cX11_init 129 = .ok (.putfield 55, 3) := by decide +kernel
theorem dX11_init_132 : decode cX11_init 132 = .ok (.aload_n 0, 1) := by decide +kernel
theorem dX11_init_133 : decode cX11_init 133 = .ok (.bipush 12, 2) := by decide +kernel
theorem dX11_init_135 : decode cX11_init 135 = .ok (.newarray .int, 2) := by decide +kernel
theorem dX11_init_137 : decode cX11_init 137 = .ok (.putfield 58, 3) := by decide +kernel
theorem dX11_init_140 : decode cX11_init 140 = .ok (.aload_n 0, 1) := by decide +kernel
theorem dX11_init_141 : decode cX11_init 141 = .ok (.bipush 12, 2) := by decide +kernel
theorem dX11_init_143 : decode cX11_init 143 = .ok (.newarray .int, 2) := by decide +kernel
theorem dX11_init_145 : decode cX11_init 145 = .ok (.putfield 61, 3) := by decide +kernel
theorem dX11_init_148 : decode cX11_init 148 = .ok (.aload_n 0, 1) := by decide +kernel
theorem dX11_init_149 : decode cX11_init 149 = .ok (.bipush 12, 2) := by decide +kernel
theorem dX11_init_151 : decode cX11_init 151 = .ok (.newarray .int, 2) := by decide +kernel
theorem dX11_init_153 : decode cX11_init 153 = .ok (.putfield 64, 3) := by decide +kernel
theorem dX11_init_156 : decode cX11_init 156 = .ok (.aload_n 0, 1) := by decide +kernel
theorem dX11_init_157 : decode cX11_init 157 = .ok (.bipush 8, 2) := by decide +kernel
theorem dX11_init_159 : decode cX11_init 159 = .ok (.newarray .int, 2) := by decide +kernel
theorem dX11_init_161 : decode cX11_init 161 = .ok (.putfield 67, 3) := by decide +kernel
theorem dX11_init_164 : decode cX11_init 164 = .ok (.aload_n 0, 1) := by decide +kernel
theorem dX11_init_165 : decode cX11_init 165 = .ok (.bipush 8, 2) := by decide +kernel
theorem dX11_init_167 : decode cX11_init 167 = .ok (.newarray .int, 2) := by decide +kernel
theorem dX11_init_169 : decode cX11_init 169 = .ok (.putfield 70, 3) := by decide +kernel
theorem dX11_init_172 : decode cX11_init 172 = .ok (.aload_n 0, 1) := by decide +kernel
theorem dX11_init_173 : decode cX11_init 173 = .ok (.ldc 73, 2) := by decide +kernel
theorem dX11_init_175 : decode cX11_init 175 = .ok (.newarray .int, 2) := by decide +kernel
theorem dX11_init_177 : decode cX11_init 177 = .ok (.putfield 74, 3) := by decide +kernel
theorem dX11_init_180 : decode cX11_init 180 = .ok (.aload_n 0, 1) := by decide +kernel
theorem dX11_init_181 : decode cX11_init 181 = .ok (.bipush 8, 2) := by decide +kernel
theorem dX11_init_183 : decode cX11_init 183 = .ok (.newarray .int, 2) := by decide +kernel
theorem dX11_init_185 : decode cX11_init 185 = .ok (.putfield 77, 3) := by decide +kernel
theorem dX11_init_188 : decode cX11_init 188 = .ok (.aload_n 0, 1) := by decide +kernel
theorem dX11_init_189 : decode cX11_init 189 = .ok (.bipush 12, 2) := by decide +kernel
theorem dX11_init_191 : decode cX11_init 191 = .ok (.newarray .int, 2) := by decide +kernel
theorem dX11_init_193 : decode cX11_init 193 = .ok (.putfield 80, 3) := by decide +kernel
theorem dX11_init_196 : decode cX11_init 196 = .ok (.aload_n 0, 1) := by decide +kernel
theorem dX11_init_197 : decode cX11_init 197 = .ok (.bipush 12, 2) := by decide +kernel
theorem dX11_init_199 : decode cX11_init 199 = .ok (.newarray .int, 2) := by decide +kernel
theorem dX11_init_201 : decode cX11_init 201 = .ok (.putfield 83, 3) := by decide +kernel
theorem dX11_init_204 : decode cX11_init 204 = .ok (.aload_n 0, 1) := by decide +kernel
theorem dX11_init_205 : decode cX11_init 205 = .ok (.bipush 12, 2) := by decide +kernel
theorem dX11_init_207 : decode cX11_init 207 = .ok (.newarray .int, 2) := by decide +kernel
theorem dX11_init_209 : decode cX11_init 209 = .ok (.putfield 86, 3) := by decide +kernel
theorem dX11_init_212 : decode cX11_init 212 = .ok (.aload_n 0, 1) := by decide +kernel
theorem dX11_init_213 : decode cX11_init 213 = .ok (.iconst 3, 1) := by decide +kernel
theorem dX11_init_214 : decode cX11_init 214 = .ok (.newarray .int, 2) := by decide +kernel
theorem dX11_init_216 : decode cX11_init 216 = .ok (.putfield 89, 3) := by decide +kernel
theorem dX11_init_219 : decode cX11_init 219 = .ok (.aload_n 0, 1) := by decide +kernel
theorem dX11_init_220 : decode cX11_init 220 = .ok (.bipush 8, 2) := by decide +kernel
theorem dX11_init_222 : decode cX11_init 222 = .ok (.newarray .int, 2) := by decide +kernel
theorem dX11_init_224 : decode cX11_init 224 = .ok (.putfield 92, 3) := by decide +kernel
theorem dX11_init_227 : decode cX11_init 227 = .ok (.aload_n 0, 1) := by decide +kernel
theorem dX11_init_228 : decode cX11_init 228 = .ok (.bipush 8, 2) := by decide +kernel
theorem dX11_init_230 : decode cX11_init 230 = .ok (.newarray .int, 2) := by decide +kernel
theorem dX11_init_232 : decode cX11_init 232 = .ok (.putfield 95, 3) := by decide +kernel
theorem dX11_init_235 : decode cX11_init 235 = .ok (.aload_n 0, 1) := by decide +kernel
theorem dX11_init_236 : decode cX11_init 236 = .ok (.iconst 3, 1) := by decide +kernel
theorem dX11_init_237 : decode cX11_init 237 = .ok (.newarray .int, 2) := by decide +kernel
theorem dX11_init_239 : decode cX11_init 239 = .ok (.putfield 98, 3) := by decide +kernel
theorem dX11_init_242 : decode cX11_init 242 = .ok (.aload_n 0, 1) := by decide +kernel
theorem dX11_init_243 : decode cX11_init 243 = .ok (.bipush 80, 2) := by decide +kernel
theorem dX11_init_245 : decode cX11_init 245 = .ok (.newarray .boolean, 2) := by decide +kernel
theorem dX11_init_247 : decode cX11_init 247 = .ok (.putfield 101, 3) := by decide +kernel
theorem dX11_init_250 : decode cX11_init 250 = .ok (.aload_n 0, 1) := by decide +kernel
theorem dX11_init_251 : decode cX11_init 251 = .ok (.bipush 80, 2) := by decide +kernel
theorem dX11_init_253 : decode cX11_init 253 = .ok (.newarray .boolean, 2) := by decide +kernel
theorem dX11_init_255 : decode cX11_init 255 = .ok (.putfield 105, 3) := by decide +kernel
theorem dX11_init_258 : decode cX11_init 258 = .ok (.aload_n 0, 1) := by decide +kernel
theorem dX11_init_259 : decode cX11_init 259 = .ok (.sipush 202, 3) := by decide +kernel
theorem dX11_init_262 : decode cX11_init 262 = .ok (.newarray .int, 2) := by decide +kernel
theorem dX11_init_264 : decode cX11_init 264 = .ok (.putfield 108, 3) := by decide +kernel
theorem dX11_init_267 : decode cX11_init 267 = .ok (.aload_n 0, 1) := by decide +kernel
theorem dX11_init_268 : decode cX11_init 268 = .ok (.bipush 32, 2) := by decide +kernel
theorem dX11_init_270 : decode cX11_init 270 = .ok (.newarray .int, 2) := by decide +kernel
theorem dX11_init_272 : decode cX11_init 272 = .ok (.putfield 111, 3) := by decide +kernel
theorem dX11_init_275 : decode cX11_init 275 = .ok (.aload_n 0, 1) := by decide +kernel
theorem dX11_init_276 : decode cX11_init 276 = .ok (.bipush 32, 2) := by decide +kernel
theorem dX11_init_278 : decode cX11_init 278 = .ok (.newarray .int, 2) := by decide +kernel
theorem dX11_init_280 : decode cX11_init 280 = .ok (.putfield 114, 3) := by decide +kernel
theorem dX11_init_283 : decode cX11_init 283 = .ok (.aload_n 0, 1) := by decide +kernel
theorem dX11_init_284 : decode cX11_init 284 = .ok (.bipush 32, 2) := by decide +kernel
theorem dX11_init_286 : decode cX11_init 286 = .ok (.newarray .int, 2) := by decide +kernel
theorem dX11_init_288 : decode cX11_init 288 = .ok (.putfield 117, 3) := by decide +kernel
theorem dX11_init_291 : decode cX11_init 291 = .ok (.aload_n 0, 1) := by decide +kernel
theorem dX11_init_292 : decode cX11_init 292 = .ok (.bipush 60, 2) := by decide +kernel
theorem dX11_init_294 : decode cX11_init 294 = .ok (.newarray .int, 2) := by decide +kernel
theorem dX11_init_296 : decode cX11_init 296 = .ok (.putfield 120, 3) := by decide +kernel
theorem dX11_init_299 : decode cX11_init 299 = .ok (.aload_n 0, 1) := by decide +kernel
theorem dX11_init_300 : decode cX11_init 300 = .ok (.bipush 60, 2) := by decide +kernel
theorem dX11_init_302 : decode cX11_init 302 = .ok (.newarray .int, 2) := by decide +kernel
theorem dX11_init_304 : decode cX11_init 304 = .ok (.putfield 123, 3) := by decide +kernel
theorem dX11_init_307 : decode cX11_init 307 = .ok (.aload_n 0, 1) := by decide +kernel
theorem dX11_init_308 : decode cX11_init 308 = .ok (.bipush 60, 2) := by decide +kernel
theorem dX11_init_310 : decode cX11_init 310 = .ok (.newarray .int, 2) := by decide +kernel
theorem dX11_init_312 : decode cX11_init 312 = .ok (.putfield 126, 3) := by decide +kernel
theorem dX11_init_315 : decode cX11_init 315 = .ok (.aload_n 0, 1) := by decide +kernel
theorem dX11_init_316 : decode cX11_init 316 = .ok (.bipush 16, 2) := by decide +kernel
theorem dX11_init_318 : decode cX11_init 318 = .ok (.newarray .int, 2) := by decide +kernel
theorem dX11_init_320 : decode cX11_init 320 = .ok (.putfield 129, 3) := by decide +kernel
theorem dX11_init_323 : decode cX11_init 323 = .ok (.aload_n 0, 1) := by decide +kernel
theorem dX11_init_324 : decode cX11_init 324 = .ok (.bipush 16, 2) := by decide +kernel
theorem dX11_init_326 : decode cX11_init 326 = .ok (.newarray .int, 2) := by decide +kernel
theorem dX11_init_328 : decode cX11_init 328 = .ok (.putfield 132, 3) := by decide +kernel
theorem dX11_init_331 : decode cX11_init 331 = .ok (.aload_n 0, 1) := by decide +kernel
theorem dX11_init_332 : decode cX11_init 332 = .ok (.bipush 6, 2) := by decide +kernel
theorem dX11_init_334 : decode cX11_init 334 = .ok (.newarray .int, 2) := by decide +kernel
theorem dX11_init_336 : decode cX11_init 336 = .ok (.putfield 135, 3) := by decide +kernel
theorem dX11_init_339 : decode cX11_init 339 = .ok (.aload_n 0, 1) := by decide +kernel
theorem dX11_init_340 : decode cX11_init 340 = .ok (.bipush 6, 2) := by decide +kernel
theorem dX11_init_342 : decode cX11_init 342 = .ok (.newarray .int, 2) := by decide +kernel
theorem dX11_init_344 : decode cX11_init 344 = .ok (.putfield 138, 3) := by decide +kernel
theorem dX11_init_347 : decode cX11_init 347 = .ok (.aload_n 0, 1) := by decide +kernel
theorem dX11_init_348 : decode cX11_init 348 = .ok (.bipush 6, 2) := by decide +kernel
theorem dX11_init_350 : decode cX11_init 350 = .ok (.newarray .int, 2) := by decide +kernel
theorem dX11_init_352 : decode cX11_init 352 = .ok (.putfield 141, 3) := by decide +kernel
theorem dX11_init_355 : decode cX11_init 355 = .ok (.iconst 0, 1) := by decide +kernel
theorem dX11_init_356 : decode cX11_init 356 = .ok (.istore_n 1, 1) := by decide +kernel
theorem dX11_init_357 : decode cX11_init 357 = .ok (.iload_n 1, 1) := by decide +kernel
theorem dX11_init_358 : decode cX11_init 358 = .ok (.bipush 6, 2) := by decide +kernel
theorem dX11_init_360 : decode cX11_init 360 = .ok (.if_icmp .ge 57, 3) := by decide +kernel
theorem dX11_init_363 : decode cX11_init 363 = .ok (.aload_n 0, 1) := by decide +kernel
theorem dX11_init_364 : decode cX11_init 364 = .ok (.getfield 13, 3) := by decide +kernel
theorem dX11_init_367 : decode cX11_init 367 = .ok (.iconst 4, 1) := by decide +kernel
theorem dX11_init_368 : decode cX11_init 368 = .ok (.iload_n 1, 1) := by decide +kernel
theorem dX11_init_369 : decode cX11_init 369 = .ok (.imul, 1) := by decide +kernel
theorem dX11_init_370 : decode cX11_init 370 = .ok (.bipush 30, 2) := by decide +kernel
theorem dX11_init_372 : decode cX11_init 372 = .ok (.iastore, 1) := by decide +kernel
theorem dX11_init_373 : decode cX11_init 373 = .ok (.aload_n 0, 1) := by decide +kernel
theorem dX11_init_374 : decode cX11_init 374 = .ok (.getfield 13, 3) := by decide +kernel
theorem dX11_init_377 : decode cX11_init 377 = .ok (.iconst 4, 1) := by decide +kernel
theorem dX11_init_378 : decode cX11_init 378 = .ok (.iload_n 1, 1) := by decide +kernel
theorem dX11_init_379 : decode cX11_init 379 = .ok (.imul, 1) := by decide +kernel
theorem dX11_init_380 : decode cX11_init 380 = .ok (.iconst 1, 1) := by decide +kernel
theorem dX11_init_381 : decode cX11_init 381 = .ok (.iadd, 1) := by decide +kernel
theorem dX11_init_382 : decode cX11_init 382 = .ok (.bipush 120, 2) := by decide +kernel
theorem dX11_init_384 : decode cX11_init 384 = .ok (.iastore, 1) := by decide +kernel
theorem dX11_init_385 : decode cX11_init 385 = .ok (.aload_n 0, 1) := by decide +kernel
theorem dX11_init_386 : decode cX11_init 386 = .ok (.getfield 13, 3) := by decide +kernel
theorem dX11_init_389 : decode cX11_init 389 = .ok (.iconst 4, 1) := by decide +kernel
theorem dX11_init_390 : decode cX11_init 390 = .ok (.iload_n 1, 1) := by decide +kernel
theorem dX11_init_391 : decode cX11_init 391 = .ok (.imul, 1) := by decide +kernel
theorem dX11_init_392 : decode cX11_init 392 = .ok (.iconst 2, 1) := by decide +kernel
theorem dX11_init_393 : decode cX11_init 393 = .ok (.iadd, 1) := by decide +kernel
theorem dX11_init_394 : decode cX11_init 394 = .ok (.sipush 1200, 3) := by decide +kernel
theorem dX11_init_397 : decode cX11_init 397 = .ok (.iastore, 1) := by decide +kernel
theorem dX11_init_398 : decode cX11_init 398 = .ok (.aload_n 0, 1) := by decide +kernel
theorem dX11_init_399 : decode cX11_init 399 = .ok (.getfield 13, 3) := by decide +kernel
theorem dX11_init_402 : decode cX11_init 402 = .ok (.iconst 4, 1) := by decide +kernel
theorem dX11_init_403 : decode cX11_init 403 = .ok (.iload_n 1, 1) := by decide +kernel
theorem dX11_init_404 : decode cX11_init 404 = .ok (.imul, 1) := by decide +kernel
theorem dX11_init_405 : decode cX11_init 405 = .ok (.iconst 3, 1) := by decide +kernel
theorem dX11_init_406 : decode cX11_init 406 = .ok (.iadd, 1) := by decide +kernel
theorem dX11_init_407 : decode cX11_init 407 = .ok (.sipush 1400, 3) := by decide +kernel
theorem dX11_init_410 : decode cX11_init 410 = .ok (.iastore, 1) := by decide +kernel
theorem dX11_init_411 : decode cX11_init 411 = .ok (.iinc 1 1, 3) := by decide +kernel
theorem dX11_init_414 : decode cX11_init 414 = .ok (.goto (-57), 3) := by decide +kernel
theorem dX11_init_417 : decode cX11_init 417 = .ok (.iconst 0, 1) := by decide +kernel
theorem dX11_init_418 : decode cX11_init 418 = .ok (.istore_n 1, 1) := by decide +kernel
theorem dX11_init_419 : decode cX11_init 419 = .ok (.iload_n 1, 1) := by decide +kernel
theorem dX11_init_420 : decode cX11_init 420 = .ok (.bipush 12, 2) := by decide +kernel
theorem dX11_init_422 : decode cX11_init 422 = .ok (.if_icmp .ge 33, 3) := by decide +kernel
theorem dX11_init_425 : decode cX11_init 425 = .ok (.aload_n 0, 1) := by decide +kernel
theorem dX11_init_426 : decode cX11_init 426 = .ok (.getfield 46, 3) := by decide +kernel
theorem dX11_init_429 : decode cX11_init 429 = .ok (.iload_n 1, 1) := by decide +kernel
theorem dX11_init_430 : decode cX11_init 430 = .ok (.bipush 10, 2) := by decide +kernel
theorem dX11_init_432 : decode cX11_init 432 = .ok (.iastore, 1) := by decide +kernel
theorem dX11_init_433 : decode cX11_init 433 = .ok (.aload_n 0, 1) := by decide +kernel
theorem dX11_init_434 : decode cX11_init 434 = .ok (.getfield 49, 3) := by decide +kernel
theorem dX11_init_437 : decode cX11_init 437 = .ok (.iload_n 1, 1) := by decide +kernel
theorem dX11_init_438 : decode cX11_init 438 = .ok (.bipush 20, 2) := by decide +kernel
theorem dX11_init_440 : decode cX11_init 440 = .ok (.iastore, 1) := by decide +kernel
theorem dX11_init_441 : decode cX11_init 441 = .ok (.aload_n 0, 1) := by decide +kernel
theorem dX11_init_442 : decode cX11_init 442 = .ok (.getfield 52, 3) := by decide +kernel
theorem dX11_init_445 : decode cX11_init 445 = .ok (.iload_n 1, 1) := by decide +kernel
theorem dX11_init_446 : decode cX11_init 446 = .ok (.bipush (-9), 2) := by decide +kernel
theorem dX11_init_448 : decode cX11_init 448 = .ok (.iastore, 1) := by decide +kernel
theorem dX11_init_449 : decode cX11_init 449 = .ok (.iinc 1 1, 3) := by decide +kernel
theorem dX11_init_452 : decode cX11_init 452 = .ok (.goto (-33), 3) := by decide +kernel
theorem dX11_init_455 : decode cX11_init 455 = .ok (.iconst 0, 1) := by decide +kernel
theorem dX11_init_456 : decode cX11_init 456 = .ok (.istore_n 1, 1) := by decide +kernel
theorem dX11_init_457 : decode cX11_init 457 = .ok (.iload_n 1, 1) := by decide +kernel
theorem dX11_init_458 : decode cX11_init 458 = .ok (.iconst 3, 1) := by decide +kernel
theorem dX11_init_459 : decode cX11_init 459 = .ok (.if_icmp .ge 16, 3) := by decide +kernel
theorem dX11_init_462 : decode cX11_init 462 = .ok (.aload_n 0, 1) := by decide +kernel
theorem dX11_init_463 : decode cX11_init 463 = .ok (.getfield 89, 3) := by decide +kernel
theorem dX11_init_466 : decode cX11_init 466 = .ok (.iload_n 1, 1) := by decide +kernel
theorem dX11_init_467 : decode cX11_init 467 = .ok (.iconst 1, 1) := by decide +kernel
theorem dX11_init_468 : decode cX11_init 468 = .ok (.iastore, 1) := by decide +kernel
theorem dX11_init_469 : decode cX11_init 469 = .ok (.iinc 1 1, 3) := by decide +kernel
theorem dX11_init_472 : decode cX11_init 472 = .ok (.goto (-15), 3) := by decide +kernel
theorem dX11_init_475 : decode cX11_init 475 = .ok (.return_, 1) := by decide +kernel
theorem dX11_refuse_0 : decode cX11_refuse 0 = .ok (.aload_n 0, 1) := by decide +kernel
theorem dX11_refuse_1 : decode cX11_refuse 1 = .ok (.getfield 7, 3) := by decide +kernel
theorem dX11_refuse_4 : decode cX11_refuse 4 = .ok (.iload_n 1, 1) := by decide +kernel
theorem dX11_refuse_5 : decode cX11_refuse 5 = .ok (.ineg, 1) := by decide +kernel
theorem dX11_refuse_6 : decode cX11_refuse 6 = .ok (.dup2, 1) := by decide +kernel
theorem dX11_refuse_7 : decode cX11_refuse 7 = .ok (.iaload, 1) := by decide +kernel
theorem dX11_refuse_8 : decode cX11_refuse 8 = .ok (.iconst 1, 1) := by decide +kernel
theorem dX11_refuse_9 : decode cX11_refuse 9 = .ok (.iadd, 1) := by decide +kernel
theorem dX11_refuse_10 : decode cX11_refuse 10 = .ok (.iastore, 1) := by decide +kernel
theorem dX11_refuse_11 : decode cX11_refuse 11 = .ok (.iload_n 1, 1) := by decide +kernel
theorem dX11_refuse_12 : decode cX11_refuse 12 = .ok (.ireturn, 1) := by decide +kernel
theorem dX11_isIn_0 : decode cX11_isIn 0 = .ok (.iload_n 0, 1) := by decide +kernel
theorem dX11_isIn_1 : decode cX11_isIn 1 = .ok (.ifCond .lt 12, 3) := by decide +kernel
theorem dX11_isIn_4 : decode cX11_isIn 4 = .ok (.iload_n 0, 1) := by decide +kernel
theorem dX11_isIn_5 : decode cX11_isIn 5 = .ok (.iload_n 1, 1) := by decide +kernel
theorem dX11_isIn_6 : decode cX11_isIn 6 = .ok (.if_icmp .ge 7, 3) := by decide +kernel
theorem dX11_isIn_9 : decode cX11_isIn 9 = .ok (.iconst 1, 1) := by decide +kernel
theorem dX11_isIn_10 : decode cX11_isIn 10 = .ok (.goto 4, 3) := by decide +kernel
theorem dX11_isIn_13 : decode cX11_isIn 13 = .ok (.iconst 0, 1) := by decide +kernel
theorem dX11_isIn_14 : decode cX11_isIn 14 = .ok (.ireturn, 1) := by decide +kernel
theorem dX11_wrong_0 : decode cX11_wrong 0 = .ok (.iload_n 0, 1) := by decide +kernel
theorem dX11_wrong_1 : decode cX11_wrong 1 = .ok (.iload_n 1, 1) := by decide +kernel
theorem dX11_wrong_2 : decode cX11_wrong 2 = .ok (.if_icmp .ge 8, 3) := by decide +kernel
theorem dX11_wrong_5 : decode cX11_wrong 5 = .ok (.bipush (-4), 2) := by decide +kernel
theorem dX11_wrong_7 : decode cX11_wrong 7 = .ok (.goto 14, 3) := by decide +kernel
theorem dX11_wrong_10 : decode cX11_wrong 10 = .ok (.iload_n 0, 1) := by decide +kernel
theorem dX11_wrong_11 : decode cX11_wrong 11 = .ok (.iload_n 2, 1) := by decide +kernel
theorem dX11_wrong_12 : decode cX11_wrong 12 = .ok (.if_icmp .le 8, 3) := by decide +kernel
theorem dX11_wrong_15 : decode cX11_wrong 15 = .ok (.bipush (-6), 2) := by decide +kernel
theorem dX11_wrong_17 : decode cX11_wrong 17 = .ok (.goto 4, 3) := by decide +kernel
theorem dX11_wrong_20 : decode cX11_wrong 20 = .ok (.iconst 0, 1) := by decide +kernel
theorem dX11_wrong_21 : decode cX11_wrong 21 = .ok (.ireturn, 1) := by decide +kernel
theorem dX11_paste_0 : decode cX11_paste 0 = .ok (.iload_n 1, 1) := by decide +kernel
theorem dX11_paste_1 : decode cX11_paste 1 = .ok (.bipush 6, 2) := by decide +kernel
theorem dX11_paste_3 : decode cX11_paste 3 = .ok (.invokestatic 144, 3) := by decide +kernel
theorem dX11_paste_6 : decode cX11_paste 6 = .ok (.ifCond .ne 7, 3) := by decide +kernel
theorem dX11_paste_9 : decode cX11_paste 9 = .ok (.iconst (-1), 1) := by decide +kernel
theorem dX11_paste_10 : decode cX11_paste 10 = .ok (.goto 45, 3) := by decide +kernel
theorem dX11_paste_13 : decode cX11_paste 13 = .ok (.iload_n 2, 1) := by decide +kernel
theorem dX11_paste_14 : decode cX11_paste 14 = .ok (.iconst 4, 1) := by decide +kernel
theorem dX11_paste_15 : decode cX11_paste 15 = .ok (.invokestatic 144, 3) := by decide +kernel
theorem dX11_paste_18 : decode cX11_paste 18 = .ok (.ifCond .ne 8, 3) := by decide +kernel
theorem dX11_paste_21 : decode cX11_paste 21 = .ok (.bipush (-2), 2) := by decide +kernel
theorem dX11_paste_23 : decode cX11_paste 23 = .ok (.goto 32, 3) := by decide +kernel
theorem dX11_paste_26 : decode cX11_paste 26 = .ok (.iload_n 3, 1) := by decide +kernel
theorem dX11_paste_27 : decode cX11_paste 27 = .ok (.iconst 0, 1) := by decide +kernel
theorem dX11_paste_28 : decode cX11_paste 28 = .ok (.iload_n 2, 1) := by decide +kernel
theorem dX11_paste_29 : decode cX11_paste 29 = .ok (.ifCond .ne 9, 3) := by decide +kernel
theorem dX11_paste_32 : decode cX11_paste 32 = .ok (.sipush 200, 3) := by decide +kernel
theorem dX11_paste_35 : decode cX11_paste 35 = .ok (.goto 17, 3) := by decide +kernel
theorem dX11_paste_38 : decode cX11_paste 38 = .ok (.iload_n 2, 1) := by decide +kernel
theorem dX11_paste_39 : decode cX11_paste 39 = .ok (.iconst 1, 1) := by decide +kernel
theorem dX11_paste_40 : decode cX11_paste 40 = .ok (.if_icmp .ne 9, 3) := by decide +kernel
theorem dX11_paste_43 : decode cX11_paste 43 = .ok (.sipush 300, 3) := by decide +kernel
theorem dX11_paste_46 : decode cX11_paste 46 = .ok (.goto 6, 3) := by decide +kernel
theorem dX11_paste_49 : decode cX11_paste 49 = .ok (.sipush 2000, 3) := by decide +kernel
theorem dX11_paste_52 : decode cX11_paste 52 = .ok (.invokestatic 148, 3) := by decide +kernel
theorem dX11_paste_55 : decode cX11_paste 55 = .ok (.istore 4, 2) := by decide +kernel
theorem dX11_paste_57 : decode cX11_paste 57 = .ok (.iload 4, 2) := by decide +kernel
theorem dX11_paste_59 : decode cX11_paste 59 = .ok (.ifCond .eq 10, 3) := by decide +kernel
theorem dX11_paste_62 : decode cX11_paste 62 = .ok (.aload_n 0, 1) := by decide +kernel
theorem dX11_paste_63 : decode cX11_paste 63 = .ok (.iload 4, 2) := by decide +kernel
theorem dX11_paste_65 : decode cX11_paste 65 = .ok (.invokevirtual 152, 3) := by decide +kernel
theorem dX11_paste_68 : decode cX11_paste 68 = .ok (.ireturn, 1) := by decide +kernel
theorem dX11_paste_69 : decode cX11_paste 69 = .ok (.aload_n 0, 1) := by decide +kernel
theorem dX11_paste_70 : decode cX11_paste 70 = .ok (.getfield 13, 3) := by decide +kernel
theorem dX11_paste_73 : decode cX11_paste 73 = .ok (.iconst 4, 1) := by decide +kernel
theorem dX11_paste_74 : decode cX11_paste 74 = .ok (.iload_n 1, 1) := by decide +kernel
theorem dX11_paste_75 : decode cX11_paste 75 = .ok (.imul, 1) := by decide +kernel
theorem dX11_paste_76 : decode cX11_paste 76 = .ok (.iload_n 2, 1) := by decide +kernel
theorem dX11_paste_77 : decode cX11_paste 77 = .ok (.iadd, 1) := by decide +kernel
theorem dX11_paste_78 : decode cX11_paste 78 = .ok (.iaload, 1) := by decide +kernel
theorem dX11_paste_79 : decode cX11_paste 79 = .ok (.istore 5, 2) := by decide +kernel
theorem dX11_paste_81 : decode cX11_paste 81 = .ok (.aload_n 0, 1) := by decide +kernel
theorem dX11_paste_82 : decode cX11_paste 82 = .ok (.getfield 13, 3) := by decide +kernel
theorem dX11_paste_85 : decode cX11_paste 85 = .ok (.iconst 4, 1) := by decide +kernel
theorem dX11_paste_86 : decode cX11_paste 86 = .ok (.iload_n 1, 1) := by decide +kernel
theorem dX11_paste_87 : decode cX11_paste 87 = .ok (.imul, 1) := by decide +kernel
theorem dX11_paste_88 : decode cX11_paste 88 = .ok (.iload_n 2, 1) := by decide +kernel
theorem dX11_paste_89 : decode cX11_paste 89 = .ok (.iadd, 1) := by decide +kernel
theorem dX11_paste_90 : decode cX11_paste 90 = .ok (.iload_n 3, 1) := by decide +kernel
theorem dX11_paste_91 : decode cX11_paste 91 = .ok (.iastore, 1) := by decide +kernel
theorem dX11_paste_92 : decode cX11_paste 92 = .ok (.iload 5, 2) := by decide +kernel
theorem dX11_paste_94 : decode cX11_paste 94 = .ok (.ireturn, 1) := by decide +kernel
theorem dX11_batch_0 : decode cX11_batch 0 = .ok (.iload_n 1, 1) := by decide +kernel
theorem dX11_batch_1 : decode cX11_batch 1 = .ok (.bipush 6, 2) := by decide +kernel
theorem dX11_batch_3 : decode cX11_batch 3 = .ok (.invokestatic 144, 3) := by decide +kernel
theorem dX11_batch_6 : decode cX11_batch 6 = .ok (.ifCond .ne 9, 3) := by decide +kernel
theorem dX11_batch_9 : decode cX11_batch 9 = .ok (.aload_n 0, 1) := by decide +kernel
theorem dX11_batch_10 : decode cX11_batch 10 = .ok (.iconst (-1), 1) := by decide +kernel
theorem dX11_batch_11 : decode cX11_batch 11 = .ok (.invokevirtual 152, 3) := by decide +kernel
theorem dX11_batch_14 : decode cX11_batch 14 = .ok (.ireturn, 1) := by decide +kernel
theorem dX11_batch_15 : decode cX11_batch 15 = .ok (.iload_n 2, 1) := by decide +kernel
theorem dX11_batch_16 : decode cX11_batch 16 = .ok (.iconst 1, 1) := by decide +kernel
theorem dX11_batch_17 : decode cX11_batch 17 = .ok (.if_icmp .ge 10, 3) := by decide +kernel
theorem dX11_batch_20 : decode cX11_batch 20 = .ok (.aload_n 0, 1) := by decide +kernel
theorem dX11_batch_21 : decode cX11_batch 21 = .ok (.bipush (-4), 2) := by decide +kernel
theorem dX11_batch_23 : decode cX11_batch 23 = .ok (.invokevirtual 152, 3) := by decide +kernel
theorem dX11_batch_26 : decode cX11_batch 26 = .ok (.ireturn, 1) := by decide +kernel
theorem dX11_batch_27 : decode cX11_batch 27 = .ok (.iload_n 2, 1) := by decide +kernel
theorem dX11_batch_28 : decode cX11_batch 28 = .ok (.sipush 1000, 3) := by decide +kernel
theorem dX11_batch_31 : decode cX11_batch 31 = .ok (.if_icmp .gt 12, 3) := by decide +kernel
theorem dX11_batch_34 : decode cX11_batch 34 = .ok (.aload_n 0, 1) := by decide +kernel
theorem dX11_batch_35 : decode cX11_batch 35 = .ok (.getfield 156, 3) := by decide +kernel
theorem dX11_batch_38 : decode cX11_batch 38 = .ok (.bipush 20, 2) := by decide +kernel
theorem dX11_batch_40 : decode cX11_batch 40 = .ok (.if_icmp .ne 10, 3) := by decide +kernel
theorem dX11_batch_43 : decode cX11_batch 43 = .ok (.aload_n 0, 1) := by decide +kernel
theorem dX11_batch_44 : decode cX11_batch 44 = .ok (.bipush (-6), 2) := by decide +kernel
theorem dX11_batch_46 : decode cX11_batch 46 = .ok (.invokevirtual 152, 3) := by decide +kernel
theorem dX11_batch_49 : decode cX11_batch 49 = .ok (.ireturn, 1) := by decide +kernel
theorem dX11_batch_50 : decode cX11_batch 50 = .ok (.aload_n 0, 1) := by decide +kernel
theorem dX11_batch_51 : decode cX11_batch 51 = .ok (.getfield 16, 3) := by decide +kernel
theorem dX11_batch_54 : decode cX11_batch 54 = .ok (.aload_n 0, 1) := by decide +kernel
theorem dX11_batch_55 : decode cX11_batch 55 = .ok (.getfield 156, 3) := by decide +kernel
theorem dX11_batch_58 : decode cX11_batch 58 = .ok (.iload_n 1, 1) := by decide +kernel
theorem dX11_batch_59 : decode cX11_batch 59 = .ok (.iastore, 1) := by decide +kernel
theorem dX11_batch_60 : decode cX11_batch 60 = .ok (.aload_n 0, 1) := by decide +kernel
theorem dX11_batch_61 : decode cX11_batch 61 = .ok (.getfield 19, 3) := by decide +kernel
theorem dX11_batch_64 : decode cX11_batch 64 = .ok (.aload_n 0, 1) := by decide +kernel
theorem dX11_batch_65 : decode cX11_batch 65 = .ok (.getfield 156, 3) := by decide +kernel
theorem dX11_batch_68 : decode cX11_batch 68 = .ok (.iload_n 2, 1) := by decide +kernel
theorem dX11_batch_69 : decode cX11_batch 69 = .ok (.iastore, 1) := by decide +kernel
theorem dX11_batch_70 : decode cX11_batch 70 = .ok (.aload_n 0, 1) := by decide +kernel
theorem dX11_batch_71 : decode cX11_batch 71 = .ok (.getfield 22, 3) := by decide +kernel
theorem dX11_batch_74 : decode cX11_batch 74 = .ok (.aload_n 0, 1) := by decide +kernel
theorem dX11_batch_75 : decode cX11_batch 75 = .ok (.getfield 156, 3) := by decide +kernel
theorem dX11_batch_78 : decode cX11_batch 78 = .ok (.aload_n 0, 1) := by decide +kernel
theorem dX11_batch_79 : decode cX11_batch 79 = .ok (.getfield 160, 3) := by decide +kernel
theorem dX11_batch_82 : decode cX11_batch 82 = .ok (.iastore, 1) := by decide +kernel
theorem dX11_batch_83 : decode cX11_batch 83 = .ok (.aload_n 0, 1) := by decide +kernel
theorem dX11_batch_84 : decode cX11_batch 84 = .ok (.dup, 1) := by decide +kernel
theorem dX11_batch_85 : decode cX11_batch 85 = .ok (.getfield 156, 3) := by decide +kernel
theorem dX11_batch_88 : decode cX11_batch 88 = .ok (.iconst 1, 1) := by decide +kernel
theorem dX11_batch_89 : decode cX11_batch 89 = .ok (.iadd, 1) := by decide +kernel
theorem dX11_batch_90 : decode cX11_batch 90 = .ok (.putfield 156, 3) := by decide +kernel
theorem dX11_batch_93 : decode cX11_batch 93 = .ok (.aload_n 0, 1) := by decide +kernel
theorem dX11_batch_94 : decode cX11_batch 94 = .ok (.getfield 156, 3) := by decide +kernel
theorem dX11_batch_97 : decode cX11_batch 97 = .ok (.iconst 1, 1) := by decide +kernel
theorem dX11_batch_98 : decode cX11_batch 98 = .ok (.isub, 1) := by decide +kernel
theorem dX11_batch_99 : decode cX11_batch 99 = .ok (.ireturn, 1) := by decide +kernel
theorem dX11_goes_0 : decode cX11_goes 0 = .ok (.iconst 0, 1) := by decide +kernel
theorem dX11_goes_1 : decode cX11_goes 1 = .ok (.istore_n 2, 1) := by decide +kernel
theorem dX11_goes_2 : decode cX11_goes 2 = .ok (.iload_n 2, 1) := by decide +kernel
theorem dX11_goes_3 : decode cX11_goes 3 = .ok (.iload_n 1, 1) := by decide +kernel
theorem dX11_goes_4 : decode cX11_goes 4 = .ok (.if_icmp .ge 69, 3) := by decide +kernel
theorem dX11_goes_7 : decode cX11_goes 7 = .ok (.aload_n 0, 1) := by decide +kernel
theorem dX11_goes_8 : decode cX11_goes 8 = .ok (.dup, 1) := by decide +kernel
theorem dX11_goes_9 : decode cX11_goes 9 = .ok (.getfield 160, 3) := by decide +kernel
theorem dX11_goes_12 : decode cX11_goes 12 = .ok (.iconst 1, 1) := by decide +kernel
theorem dX11_goes_13 : decode cX11_goes 13 = .ok (.iadd, 1) := by decide +kernel
theorem dX11_goes_14 : decode cX11_goes 14 = .ok (.putfield 160, 3) := by decide +kernel
theorem dX11_goes_17 : decode cX11_goes 17 = .ok (.iconst 0, 1) := by decide +kernel
theorem dX11_goes_18 : decode cX11_goes 18 = .ok (.istore_n 3, 1) := by decide +kernel
theorem dX11_goes_19 : decode cX11_goes 19 = .ok (.iload_n 3, 1) := by decide +kernel
theorem dX11_goes_20 : decode cX11_goes 20 = .ok (.aload_n 0, 1) := by decide +kernel
theorem dX11_goes_21 : decode cX11_goes 21 = .ok (.getfield 163, 3) := by decide +kernel
theorem dX11_goes_24 : decode cX11_goes 24 = .ok (.if_icmp .ge 43, 3) := by decide +kernel
theorem dX11_goes_27 : decode cX11_goes 27 = .ok (.aload_n 0, 1) := by decide +kernel
theorem dX11_goes_28 : decode cX11_goes 28 = .ok (.getfield 160, 3) := by decide +kernel
theorem dX11_goes_31 : decode cX11_goes 31 = .ok (.aload_n 0, 1) := by decide +kernel
theorem dX11_goes_32 : decode cX11_goes 32 = .ok (.getfield 141, 3) := by decide +kernel
theorem dX11_goes_35 : decode cX11_goes 35 = .ok (.iload_n 3, 1) := by decide +kernel
theorem dX11_goes_36 : decode cX11_goes 36 = .ok (.iaload, 1) := by decide +kernel
theorem dX11_goes_37 : decode cX11_goes 37 = .ok (.isub, 1) := by decide +kernel
theorem dX11_goes_38 : decode cX11_goes 38 = .ok (.bipush 30, 2) := by decide +kernel
theorem dX11_goes_40 : decode cX11_goes 40 = .ok (.irem, 1) := by decide +kernel
theorem dX11_goes_41 : decode cX11_goes 41 = .ok (.ifCond .ne 20, 3) := by decide +kernel
theorem dX11_goes_44 : decode cX11_goes 44 = .ok (.aload_n 0, 1) := by decide +kernel
theorem dX11_goes_45 : decode cX11_goes 45 = .ok (.getfield 135, 3) := by decide +kernel
theorem dX11_goes_48 : decode cX11_goes 48 = .ok (.iload_n 3, 1) := by decide +kernel
theorem dX11_goes_49 : decode cX11_goes 49 = .ok (.aload_n 0, 1) := by decide +kernel
theorem dX11_goes_50 : decode cX11_goes 50 = .ok (.iload_n 3, 1) := by decide +kernel
theorem dX11_goes_51 : decode cX11_goes 51 = .ok (.aload_n 0, 1) := by decide +kernel
theorem dX11_goes_52 : decode cX11_goes 52 = .ok (.getfield 135, 3) := by decide +kernel
theorem dX11_goes_55 : decode cX11_goes 55 = .ok (.iload_n 3, 1) := by decide +kernel
theorem dX11_goes_56 : decode cX11_goes 56 = .ok (.iaload, 1) := by decide +kernel
theorem dX11_goes_57 : decode cX11_goes 57 = .ok (.invokevirtual 166, 3) := by decide +kernel
theorem dX11_goes_60 : decode cX11_goes 60 = .ok (.iastore, 1) := by decide +kernel
theorem dX11_goes_61 : decode cX11_goes 61 = .ok (.iinc 3 1, 3) := by decide +kernel
theorem dX11_goes_64 : decode cX11_goes 64 = .ok (.goto (-45), 3) := by decide +kernel
theorem dX11_goes_67 : decode cX11_goes 67 = .ok (.iinc 2 1, 3) := by decide +kernel
theorem dX11_goes_70 : decode cX11_goes 70 = .ok (.goto (-68), 3) := by decide +kernel
theorem dX11_goes_73 : decode cX11_goes 73 = .ok (.return_, 1) := by decide +kernel
theorem dX11_days_0 : decode cX11_days 0 = .ok (.iload_n 1, 1) := by decide +kernel
theorem dX11_days_1 : decode cX11_days 1 = .ok (.iconst 1, 1) := by decide +kernel
theorem dX11_days_2 : decode cX11_days 2 = .ok (.sipush 4000, 3) := by decide +kernel
theorem dX11_days_5 : decode cX11_days 5 = .ok (.aload_n 0, 1) := by decide +kernel
theorem dX11_days_6 : decode cX11_days 6 = .ok (.getfield 160, 3) := by decide +kernel
theorem dX11_days_9 : decode cX11_days 9 = .ok (.isub, 1) := by decide +kernel
theorem dX11_days_10 : decode cX11_days 10 = .ok (.invokestatic 148, 3) := by decide +kernel
theorem dX11_days_13 : decode cX11_days 13 = .ok (.istore_n 2, 1) := by decide +kernel
theorem dX11_days_14 : decode cX11_days 14 = .ok (.iload_n 2, 1) := by decide +kernel
theorem dX11_days_15 : decode cX11_days 15 = .ok (.ifCond .eq 9, 3) := by decide +kernel
theorem dX11_days_18 : decode cX11_days 18 = .ok (.aload_n 0, 1) := by decide +kernel
theorem dX11_days_19 : decode cX11_days 19 = .ok (.iload_n 2, 1) := by decide +kernel
theorem dX11_days_20 : decode cX11_days 20 = .ok (.invokevirtual 152, 3) := by decide +kernel
theorem dX11_days_23 : decode cX11_days 23 = .ok (.ireturn, 1) := by decide +kernel
theorem dX11_days_24 : decode cX11_days 24 = .ok (.aload_n 0, 1) := by decide +kernel
theorem dX11_days_25 : decode cX11_days 25 = .ok (.iload_n 1, 1) := by decide +kernel
theorem dX11_days_26 : decode cX11_days 26 = .ok (.invokevirtual 170, 3) := by decide +kernel
theorem dX11_days_29 : decode cX11_days 29 = .ok (.aload_n 0, 1) := by decide +kernel
theorem dX11_days_30 : decode cX11_days 30 = .ok (.getfield 160, 3) := by decide +kernel
theorem dX11_days_33 : decode cX11_days 33 = .ok (.ireturn, 1) := by decide +kernel
theorem dX11_piece_0 : decode cX11_piece 0 = .ok (.iload_n 1, 1) := by decide +kernel
theorem dX11_piece_1 : decode cX11_piece 1 = .ok (.aload_n 0, 1) := by decide +kernel
theorem dX11_piece_2 : decode cX11_piece 2 = .ok (.getfield 156, 3) := by decide +kernel
theorem dX11_piece_5 : decode cX11_piece 5 = .ok (.invokestatic 144, 3) := by decide +kernel
theorem dX11_piece_8 : decode cX11_piece 8 = .ok (.ifCond .eq 12, 3) := by decide +kernel
theorem dX11_piece_11 : decode cX11_piece 11 = .ok (.iload_n 2, 1) := by decide +kernel
theorem dX11_piece_12 : decode cX11_piece 12 = .ok (.bipush 10, 2) := by decide +kernel
theorem dX11_piece_14 : decode cX11_piece 14 = .ok (.invokestatic 144, 3) := by decide +kernel
theorem dX11_piece_17 : decode cX11_piece 17 = .ok (.ifCond .ne 9, 3) := by decide +kernel
theorem dX11_piece_20 : decode cX11_piece 20 = .ok (.aload_n 0, 1) := by decide +kernel
theorem dX11_piece_21 : decode cX11_piece 21 = .ok (.iconst (-1), 1) := by decide +kernel
theorem dX11_piece_22 : decode cX11_piece 22 = .ok (.invokevirtual 152, 3) := by decide +kernel
theorem dX11_piece_25 : decode cX11_piece 25 = .ok (.ireturn, 1) := by decide +kernel
theorem dX11_piece_26 : decode cX11_piece 26 = .ok (.aload_n 0, 1) := by decide +kernel
theorem dX11_piece_27 : decode cX11_piece 27 = .ok (.getfield 160, 3) := by decide +kernel
theorem dX11_piece_30 : decode cX11_piece 30 = .ok (.aload_n 0, 1) := by decide +kernel
theorem dX11_piece_31 : decode cX11_piece 31 = .ok (.getfield 22, 3) := by decide +kernel
theorem dX11_piece_34 : decode cX11_piece 34 = .ok (.iload_n 1, 1) := by decide +kernel
theorem dX11_piece_35 : decode cX11_piece 35 = .ok (.iaload, 1) := by decide +kernel
theorem dX11_piece_36 : decode cX11_piece 36 = .ok (.isub, 1) := by decide +kernel
theorem dX11_piece_37 : decode cX11_piece 37 = .ok (.aload_n 0, 1) := by decide +kernel
theorem dX11_piece_38 : decode cX11_piece 38 = .ok (.getfield 13, 3) := by decide +kernel
theorem dX11_piece_41 : decode cX11_piece 41 = .ok (.iconst 4, 1) := by decide +kernel
theorem dX11_piece_42 : decode cX11_piece 42 = .ok (.aload_n 0, 1) := by decide +kernel
theorem dX11_piece_43 : decode cX11_piece 43 = .ok (.getfield 16, 3) := by decide +kernel
theorem dX11_piece_46 : decode cX11_piece 46 = .ok (.iload_n 1, 1) := by decide +kernel
theorem dX11_piece_47 : decode cX11_piece 47 = .ok (.iaload, 1) := by decide +kernel
theorem dX11_piece_48 : decode cX11_piece 48 = .ok (.imul, 1) := by decide +kernel
theorem dX11_piece_49 : decode cX11_piece 49 = .ok (.iaload, 1) := by decide +kernel
theorem dX11_piece_50 : decode cX11_piece 50 = .ok (.if_icmp .ge 10, 3) := by decide +kernel
theorem dX11_piece_53 : decode cX11_piece 53 = .ok (.aload_n 0, 1) := by decide +kernel
theorem dX11_piece_54 : decode cX11_piece 54 = .ok (.bipush (-3), 2) := by decide +kernel
theorem dX11_piece_56 : decode cX11_piece 56 = .ok (.invokevirtual 152, 3) := by decide +kernel
theorem dX11_piece_59 : decode cX11_piece 59 = .ok (.ireturn, 1) := by decide +kernel
theorem dX11_piece_60 : decode cX11_piece 60 = .ok (.iload_n 3, 1) := by decide +kernel
theorem dX11_piece_61 : decode cX11_piece 61 = .ok (.iconst 1, 1) := by decide +kernel
theorem dX11_piece_62 : decode cX11_piece 62 = .ok (.if_icmp .lt 10, 3) := by decide +kernel
theorem dX11_piece_65 : decode cX11_piece 65 = .ok (.iload 4, 2) := by decide +kernel
theorem dX11_piece_67 : decode cX11_piece 67 = .ok (.bipush 10, 2) := by decide +kernel
theorem dX11_piece_69 : decode cX11_piece 69 = .ok (.if_icmp .ge 10, 3) := by decide +kernel
theorem dX11_piece_72 : decode cX11_piece 72 = .ok (.aload_n 0, 1) := by decide +kernel
theorem dX11_piece_73 : decode cX11_piece 73 = .ok (.bipush (-4), 2) := by decide +kernel
theorem dX11_piece_75 : decode cX11_piece 75 = .ok (.invokevirtual 152, 3) := by decide +kernel
theorem dX11_piece_78 : decode cX11_piece 78 = .ok (.ireturn, 1) := by decide +kernel
theorem dX11_piece_79 : decode cX11_piece 79 = .ok (.iload_n 3, 1) := by decide +kernel
theorem dX11_piece_80 : decode cX11_piece 80 = .ok (.bipush 40, 2) := by decide +kernel
theorem dX11_piece_82 : decode cX11_piece 82 = .ok (.if_icmp .gt 30, 3) := by decide +kernel
theorem dX11_piece_85 : decode cX11_piece 85 = .ok (.iload_n 3, 1) := by decide +kernel
theorem dX11_piece_86 : decode cX11_piece 86 = .ok (.aload_n 0, 1) := by decide +kernel
theorem dX11_piece_87 : decode cX11_piece 87 = .ok (.getfield 19, 3) := by decide +kernel
theorem dX11_piece_90 : decode cX11_piece 90 = .ok (.iload_n 1, 1) := by decide +kernel
theorem dX11_piece_91 : decode cX11_piece 91 = .ok (.iaload, 1) := by decide +kernel
theorem dX11_piece_92 : decode cX11_piece 92 = .ok (.if_icmp .gt 20, 3) := by decide +kernel
theorem dX11_piece_95 : decode cX11_piece 95 = .ok (.iload 4, 2) := by decide +kernel
theorem dX11_piece_97 : decode cX11_piece 97 = .ok (.sipush 900, 3) := by decide +kernel
theorem dX11_piece_100 : decode cX11_piece 100 = .ok (.if_icmp .gt 12, 3) := by decide +kernel
theorem dX11_piece_103 : decode cX11_piece 103 = .ok (.aload_n 0, 1) := by decide +kernel
theorem dX11_piece_104 : decode cX11_piece 104 = .ok (.getfield 174, 3) := by decide +kernel
theorem dX11_piece_107 : decode cX11_piece 107 = .ok (.bipush 80, 2) := by decide +kernel
theorem dX11_piece_109 : decode cX11_piece 109 = .ok (.if_icmp .ne 10, 3) := by decide +kernel
theorem dX11_piece_112 : decode cX11_piece 112 = .ok (.aload_n 0, 1) := by decide +kernel
theorem dX11_piece_113 : decode cX11_piece 113 = .ok (.bipush (-6), 2) := by decide +kernel
theorem dX11_piece_115 : decode cX11_piece 115 = .ok (.invokevirtual 152, 3) := by decide +kernel
theorem dX11_piece_118 : decode cX11_piece 118 = .ok (.ireturn, 1) := by decide +kernel
theorem dX11_piece_119 : decode cX11_piece 119 = .ok (.aload_n 0, 1) := by decide +kernel
theorem dX11_piece_120 : decode cX11_piece 120 = .ok (.getfield 19, 3) := by decide +kernel
theorem dX11_piece_123 : decode cX11_piece 123 = .ok (.iload_n 1, 1) := by decide +kernel
theorem dX11_piece_124 : decode cX11_piece 124 = .ok (.dup2, 1) := by decide +kernel
theorem dX11_piece_125 : decode cX11_piece 125 = .ok (.iaload, 1) := by decide +kernel
theorem dX11_piece_126 : decode cX11_piece 126 = .ok (.iload_n 3, 1) := by decide +kernel
theorem dX11_piece_127 : decode cX11_piece 127 = .ok (.isub, 1) := by decide +kernel
theorem dX11_piece_128 : decode cX11_piece 128 = .ok (.iastore, 1) := by decide +kernel
theorem dX11_piece_129 : decode cX11_piece 129 = .ok (.aload_n 0, 1) := by decide +kernel
theorem dX11_piece_130 : decode cX11_piece 130 = .ok (.getfield 25, 3) := by decide +kernel
theorem dX11_piece_133 : decode cX11_piece 133 = .ok (.aload_n 0, 1) := by decide +kernel
theorem dX11_piece_134 : decode cX11_piece 134 = .ok (.getfield 174, 3) := by decide +kernel
theorem dX11_piece_137 : decode cX11_piece 137 = .ok (.iload_n 1, 1) := by decide +kernel
theorem dX11_piece_138 : decode cX11_piece 138 = .ok (.iastore, 1) := by decide +kernel
theorem dX11_piece_139 : decode cX11_piece 139 = .ok (.aload_n 0, 1) := by decide +kernel
theorem dX11_piece_140 : decode cX11_piece 140 = .ok (.getfield 28, 3) := by decide +kernel
theorem dX11_piece_143 : decode cX11_piece 143 = .ok (.aload_n 0, 1) := by decide +kernel
theorem dX11_piece_144 : decode cX11_piece 144 = .ok (.getfield 174, 3) := by decide +kernel
theorem dX11_piece_147 : decode cX11_piece 147 = .ok (.iload_n 2, 1) := by decide +kernel
theorem dX11_piece_148 : decode cX11_piece 148 = .ok (.iastore, 1) := by decide +kernel
theorem dX11_piece_149 : decode cX11_piece 149 = .ok (.aload_n 0, 1) := by decide +kernel
theorem dX11_piece_150 : decode cX11_piece 150 = .ok (.getfield 31, 3) := by decide +kernel
theorem dX11_piece_153 : decode cX11_piece 153 = .ok (.aload_n 0, 1) := by decide +kernel
theorem dX11_piece_154 : decode cX11_piece 154 = .ok (.getfield 174, 3) := by decide +kernel
theorem dX11_piece_157 : decode cX11_piece 157 = .ok (.iload 4, 2) := by decide +kernel
theorem dX11_piece_159 : decode cX11_piece 159 = .ok (.iastore, 1) := by decide +kernel
theorem dX11_piece_160 : decode cX11_piece 160 = .ok (.aload_n 0, 1) := by decide +kernel
theorem dX11_piece_161 : decode cX11_piece 161 = .ok (.getfield 37, 3) := by decide +kernel
theorem dX11_piece_164 : decode cX11_piece 164 = .ok (.aload_n 0, 1) := by decide +kernel
theorem dX11_piece_165 : decode cX11_piece 165 = .ok (.getfield 174, 3) := by decide +kernel
theorem dX11_piece_168 : decode cX11_piece 168 = .ok (.bipush (-9), 2) := by decide +kernel
theorem dX11_piece_170 : decode cX11_piece 170 = .ok (.iastore, 1) := by decide +kernel
theorem dX11_piece_171 : decode cX11_piece 171 = .ok (.aload_n 0, 1) := by decide +kernel
theorem dX11_piece_172 : decode cX11_piece 172 = .ok (.getfield 40, 3) := by decide +kernel
theorem dX11_piece_175 : decode cX11_piece 175 = .ok (.aload_n 0, 1) := by decide +kernel
theorem dX11_piece_176 : decode cX11_piece 176 = .ok (.getfield 174, 3) := by decide +kernel
theorem dX11_piece_179 : decode cX11_piece 179 = .ok (.bipush (-9), 2) := by decide +kernel
theorem dX11_piece_181 : decode cX11_piece 181 = .ok (.iastore, 1) := by decide +kernel
theorem dX11_piece_182 : decode cX11_piece 182 = .ok (.aload_n 0, 1) := by decide +kernel
theorem dX11_piece_183 : decode cX11_piece 183 = .ok (.getfield 43, 3) := by decide +kernel
theorem dX11_piece_186 : decode cX11_piece 186 = .ok (.aload_n 0, 1) := by decide +kernel
theorem dX11_piece_187 : decode cX11_piece 187 = .ok (.getfield 174, 3) := by decide +kernel
theorem dX11_piece_190 : decode cX11_piece 190 = .ok (.bipush (-9), 2) := by decide +kernel
theorem dX11_piece_192 : decode cX11_piece 192 = .ok (.iastore, 1) := by decide +kernel
theorem dX11_piece_193 : decode cX11_piece 193 = .ok (.aload_n 0, 1) := by decide +kernel
theorem dX11_piece_194 : decode cX11_piece 194 = .ok (.dup, 1) := by decide +kernel
theorem dX11_piece_195 : decode cX11_piece 195 = .ok (.getfield 174, 3) := by decide +kernel
theorem dX11_piece_198 : decode cX11_piece 198 = .ok (.iconst 1, 1) := by decide +kernel
theorem dX11_piece_199 : decode cX11_piece 199 = .ok (.iadd, 1) := by decide +kernel
theorem dX11_piece_200 : decode cX11_piece 200 = .ok (.putfield 174, 3) := by decide +kernel
theorem dX11_piece_203 : decode cX11_piece 203 = .ok (.aload_n 0, 1) := by decide +kernel
theorem dX11_piece_204 : decode cX11_piece 204 = .ok (.getfield 174, 3) := by decide +kernel
theorem dX11_piece_207 : decode cX11_piece 207 = .ok (.iconst 1, 1) := by decide +kernel
theorem dX11_piece_208 : decode cX11_piece 208 = .ok (.isub, 1) := by decide +kernel
theorem dX11_piece_209 : decode cX11_piece 209 = .ok (.ireturn, 1) := by decide +kernel
theorem dX11_place_0 : decode cX11_place 0 = .ok (.iload_n 1, 1) := by decide +kernel
theorem dX11_place_1 : decode cX11_place 1 = .ok (.bipush 12, 2) := by decide +kernel
theorem dX11_place_3 : decode cX11_place 3 = .ok (.invokestatic 144, 3) := by decide +kernel
theorem dX11_place_6 : decode cX11_place 6 = .ok (.ifCond .ne 7, 3) := by decide +kernel
theorem dX11_place_9 : decode cX11_place 9 = .ok (.iconst (-1), 1) := by decide +kernel
theorem dX11_place_10 : decode cX11_place 10 = .ok (.goto 41, 3) := by decide +kernel
theorem dX11_place_13 : decode cX11_place 13 = .ok (.iload_n 2, 1) := by decide +kernel
theorem dX11_place_14 : decode cX11_place 14 = .ok (.iconst 2, 1) := by decide +kernel
theorem dX11_place_15 : decode cX11_place 15 = .ok (.invokestatic 144, 3) := by decide +kernel
theorem dX11_place_18 : decode cX11_place 18 = .ok (.ifCond .ne 8, 3) := by decide +kernel
theorem dX11_place_21 : decode cX11_place 21 = .ok (.bipush (-2), 2) := by decide +kernel
theorem dX11_place_23 : decode cX11_place 23 = .ok (.goto 28, 3) := by decide +kernel
theorem dX11_place_26 : decode cX11_place 26 = .ok (.iload_n 3, 1) := by decide +kernel
theorem dX11_place_27 : decode cX11_place 27 = .ok (.iload_n 2, 1) := by decide +kernel
theorem dX11_place_28 : decode cX11_place 28 = .ok (.ifCond .ne 7, 3) := by decide +kernel
theorem dX11_place_31 : decode cX11_place 31 = .ok (.iconst 1, 1) := by decide +kernel
theorem dX11_place_32 : decode cX11_place 32 = .ok (.goto 4, 3) := by decide +kernel
theorem dX11_place_35 : decode cX11_place 35 = .ok (.iconst 0, 1) := by decide +kernel
theorem dX11_place_36 : decode cX11_place 36 = .ok (.iload_n 2, 1) := by decide +kernel
theorem dX11_place_37 : decode cX11_place 37 = .ok (.ifCond .ne 8, 3) := by decide +kernel
theorem dX11_place_40 : decode cX11_place 40 = .ok (.bipush 40, 2) := by decide +kernel
theorem dX11_place_42 : decode cX11_place 42 = .ok (.goto 6, 3) := by decide +kernel
theorem dX11_place_45 : decode cX11_place 45 = .ok (.sipush 200, 3) := by decide +kernel
theorem dX11_place_48 : decode cX11_place 48 = .ok (.invokestatic 148, 3) := by decide +kernel
theorem dX11_place_51 : decode cX11_place 51 = .ok (.istore 4, 2) := by decide +kernel
theorem dX11_place_53 : decode cX11_place 53 = .ok (.iload 4, 2) := by decide +kernel
theorem dX11_place_55 : decode cX11_place 55 = .ok (.ifCond .eq 10, 3) := by decide +kernel
theorem dX11_place_58 : decode cX11_place 58 = .ok (.aload_n 0, 1) := by decide +kernel
theorem dX11_place_59 : decode cX11_place 59 = .ok (.iload 4, 2) := by decide +kernel
theorem dX11_place_61 : decode cX11_place 61 = .ok (.invokevirtual 152, 3) := by decide +kernel
theorem dX11_place_64 : decode cX11_place 64 = .ok (.ireturn, 1) := by decide +kernel
theorem dX11_place_65 : decode cX11_place 65 = .ok (.iload_n 2, 1) := by decide +kernel
theorem dX11_place_66 : decode cX11_place 66 = .ok (.ifCond .ne 12, 3) := by decide +kernel
theorem dX11_place_69 : decode cX11_place 69 = .ok (.aload_n 0, 1) := by decide +kernel
theorem dX11_place_70 : decode cX11_place 70 = .ok (.getfield 46, 3) := by decide +kernel
theorem dX11_place_73 : decode cX11_place 73 = .ok (.iload_n 1, 1) := by decide +kernel
theorem dX11_place_74 : decode cX11_place 74 = .ok (.iaload, 1) := by decide +kernel
theorem dX11_place_75 : decode cX11_place 75 = .ok (.goto 9, 3) := by decide +kernel
theorem dX11_place_78 : decode cX11_place 78 = .ok (.aload_n 0, 1) := by decide +kernel
theorem dX11_place_79 : decode cX11_place 79 = .ok (.getfield 49, 3) := by decide +kernel
theorem dX11_place_82 : decode cX11_place 82 = .ok (.iload_n 1, 1) := by decide +kernel
theorem dX11_place_83 : decode cX11_place 83 = .ok (.iaload, 1) := by decide +kernel
theorem dX11_place_84 : decode cX11_place 84 = .ok (.istore 5, 2) := by decide +kernel
theorem dX11_place_86 : decode cX11_place 86 = .ok (.iload_n 2, 1) := by decide +kernel
theorem dX11_place_87 : decode cX11_place 87 = .ok (.ifCond .ne 13, 3) := by decide +kernel
theorem dX11_place_90 : decode cX11_place 90 = .ok (.aload_n 0, 1) := by decide +kernel
theorem dX11_place_91 : decode cX11_place 91 = .ok (.getfield 46, 3) := by decide +kernel
theorem dX11_place_94 : decode cX11_place 94 = .ok (.iload_n 1, 1) := by decide +kernel
theorem dX11_place_95 : decode cX11_place 95 = .ok (.iload_n 3, 1) := by decide +kernel
theorem dX11_place_96 : decode cX11_place 96 = .ok (.iastore, 1) := by decide +kernel
theorem dX11_place_97 : decode cX11_place 97 = .ok (.goto 10, 3) := by decide +kernel
theorem dX11_place_100 : decode cX11_place 100 = .ok (.aload_n 0, 1) := by decide +kernel
theorem dX11_place_101 : decode cX11_place 101 = .ok (.getfield 49, 3) := by decide +kernel
theorem dX11_place_104 : decode cX11_place 104 = .ok (.iload_n 1, 1) := by decide +kernel
theorem dX11_place_105 : decode cX11_place 105 = .ok (.iload_n 3, 1) := by decide +kernel
theorem dX11_place_106 : decode cX11_place 106 = .ok (.iastore, 1) := by decide +kernel
theorem dX11_place_107 : decode cX11_place 107 = .ok (.iload 5, 2) := by decide +kernel
theorem dX11_place_109 : decode cX11_place 109 = .ok (.ireturn, 1) := by decide +kernel
theorem dX11_wood_0 : decode cX11_wood 0 = .ok (.iload_n 1, 1) := by decide +kernel
theorem dX11_wood_1 : decode cX11_wood 1 = .ok (.iconst 0, 1) := by decide +kernel
theorem dX11_wood_2 : decode cX11_wood 2 = .ok (.bipush 50, 2) := by decide +kernel
theorem dX11_wood_4 : decode cX11_wood 4 = .ok (.invokestatic 148, 3) := by decide +kernel
theorem dX11_wood_7 : decode cX11_wood 7 = .ok (.istore_n 2, 1) := by decide +kernel
theorem dX11_wood_8 : decode cX11_wood 8 = .ok (.iload_n 2, 1) := by decide +kernel
theorem dX11_wood_9 : decode cX11_wood 9 = .ok (.ifCond .ne 15, 3) := by decide +kernel
theorem dX11_wood_12 : decode cX11_wood 12 = .ok (.aload_n 0, 1) := by decide +kernel
theorem dX11_wood_13 : decode cX11_wood 13 = .ok (.getfield 177, 3) := by decide +kernel
theorem dX11_wood_16 : decode cX11_wood 16 = .ok (.bipush 48, 2) := by decide +kernel
theorem dX11_wood_18 : decode cX11_wood 18 = .ok (.if_icmp .ne 6, 3) := by decide +kernel
theorem dX11_wood_21 : decode cX11_wood 21 = .ok (.bipush (-6), 2) := by decide +kernel
theorem dX11_wood_23 : decode cX11_wood 23 = .ok (.istore_n 2, 1) := by decide +kernel
theorem dX11_wood_24 : decode cX11_wood 24 = .ok (.iload_n 2, 1) := by decide +kernel
theorem dX11_wood_25 : decode cX11_wood 25 = .ok (.ifCond .eq 9, 3) := by decide +kernel
theorem dX11_wood_28 : decode cX11_wood 28 = .ok (.aload_n 0, 1) := by decide +kernel
theorem dX11_wood_29 : decode cX11_wood 29 = .ok (.iload_n 2, 1) := by decide +kernel
theorem dX11_wood_30 : decode cX11_wood 30 = .ok (.invokevirtual 152, 3) := by decide +kernel
theorem dX11_wood_33 : decode cX11_wood 33 = .ok (.ireturn, 1) := by decide +kernel
theorem dX11_wood_34 : decode cX11_wood 34 = .ok (.aload_n 0, 1) := by decide +kernel
theorem dX11_wood_35 : decode cX11_wood 35 = .ok (.getfield 55, 3) := by decide +kernel
theorem dX11_wood_38 : decode cX11_wood 38 = .ok (.aload_n 0, 1) := by decide +kernel
theorem dX11_wood_39 : decode cX11_wood 39 = .ok (.getfield 177, 3) := by decide +kernel
theorem dX11_wood_42 : decode cX11_wood 42 = .ok (.iload_n 1, 1) := by decide +kernel
theorem dX11_wood_43 : decode cX11_wood 43 = .ok (.iastore, 1) := by decide +kernel
theorem dX11_wood_44 : decode cX11_wood 44 = .ok (.aload_n 0, 1) := by decide +kernel
theorem dX11_wood_45 : decode cX11_wood 45 = .ok (.dup, 1) := by decide +kernel
theorem dX11_wood_46 : decode cX11_wood 46 = .ok (.getfield 177, 3) := by decide +kernel
theorem dX11_wood_49 : decode cX11_wood 49 = .ok (.iconst 1, 1) := by decide +kernel
theorem dX11_wood_50 : decode cX11_wood 50 = .ok (.iadd, 1) := by decide +kernel
theorem dX11_wood_51 : decode cX11_wood 51 = .ok (.putfield 177, 3) := by decide +kernel
theorem dX11_wood_54 : decode cX11_wood 54 = .ok (.aload_n 0, 1) := by decide +kernel
theorem dX11_wood_55 : decode cX11_wood 55 = .ok (.getfield 177, 3) := by decide +kernel
theorem dX11_wood_58 : decode cX11_wood 58 = .ok (.ireturn, 1) := by decide +kernel
theorem dX11_clear_0 : decode cX11_clear 0 = .ok (.aload_n 0, 1) := by decide +kernel
theorem dX11_clear_1 : decode cX11_clear 1 = .ok (.getfield 177, 3) := by decide +kernel
theorem dX11_clear_4 : decode cX11_clear 4 = .ok (.istore_n 1, 1) := by decide +kernel
theorem dX11_clear_5 : decode cX11_clear 5 = .ok (.aload_n 0, 1) := by decide +kernel
theorem dX11_clear_6 : decode cX11_clear 6 = .ok (.iconst 0, 1) := by decide +kernel
theorem dX11_clear_7 : decode cX11_clear 7 = .ok (.putfield 177, 3) := by decide +kernel
theorem dX11_clear_10 : decode cX11_clear 10 = .ok (.iload_n 1, 1) := by decide +kernel
theorem dX11_clear_11 : decode cX11_clear 11 = .ok (.ireturn, 1) := by decide +kernel
theorem dX11_burns_0 : decode cX11_burns 0 = .ok (.iconst 0, 1) := by decide +kernel
theorem dX11_burns_1 : decode cX11_burns 1 = .ok (.istore_n 2, 1) := by decide +kernel
theorem dX11_burns_2 : decode cX11_burns 2 = .ok (.iload_n 2, 1) := by decide +kernel
theorem dX11_burns_3 : decode cX11_burns 3 = .ok (.bipush 12, 2) := by decide +kernel
theorem dX11_burns_5 : decode cX11_burns 5 = .ok (.if_icmp .ge 23, 3) := by decide +kernel
theorem dX11_burns_8 : decode cX11_burns 8 = .ok (.aload_n 0, 1) := by decide +kernel
theorem dX11_burns_9 : decode cX11_burns 9 = .ok (.getfield 58, 3) := by decide +kernel
theorem dX11_burns_12 : decode cX11_burns 12 = .ok (.iload_n 2, 1) := by decide +kernel
theorem dX11_burns_13 : decode cX11_burns 13 = .ok (.iconst 0, 1) := by decide +kernel
theorem dX11_burns_14 : decode cX11_burns 14 = .ok (.iastore, 1) := by decide +kernel
theorem dX11_burns_15 : decode cX11_burns 15 = .ok (.aload_n 0, 1) := by decide +kernel
theorem dX11_burns_16 : decode cX11_burns 16 = .ok (.getfield 64, 3) := by decide +kernel
theorem dX11_burns_19 : decode cX11_burns 19 = .ok (.iload_n 2, 1) := by decide +kernel
theorem dX11_burns_20 : decode cX11_burns 20 = .ok (.iconst 0, 1) := by decide +kernel
theorem dX11_burns_21 : decode cX11_burns 21 = .ok (.iastore, 1) := by decide +kernel
theorem dX11_burns_22 : decode cX11_burns 22 = .ok (.iinc 2 1, 3) := by decide +kernel
theorem dX11_burns_25 : decode cX11_burns 25 = .ok (.goto (-23), 3) := by decide +kernel
theorem dX11_burns_28 : decode cX11_burns 28 = .ok (.iconst 0, 1) := by decide +kernel
theorem dX11_burns_29 : decode cX11_burns 29 = .ok (.istore_n 2, 1) := by decide +kernel
theorem dX11_burns_30 : decode cX11_burns 30 = .ok (.iload_n 2, 1) := by decide +kernel
theorem dX11_burns_31 : decode cX11_burns 31 = .ok (.iload_n 1, 1) := by decide +kernel
theorem dX11_burns_32 : decode cX11_burns 32 = .ok (.if_icmp .ge 189, 3) := by decide +kernel
theorem dX11_burns_35 : decode cX11_burns 35 = .ok (.iconst 0, 1) := by decide +kernel
theorem dX11_burns_36 : decode cX11_burns 36 = .ok (.istore_n 3, 1) := by decide +kernel
theorem dX11_burns_37 : decode cX11_burns 37 = .ok (.iload_n 3, 1) := by decide +kernel
theorem dX11_burns_38 : decode cX11_burns 38 = .ok (.bipush 12, 2) := by decide +kernel
theorem dX11_burns_40 : decode cX11_burns 40 = .ok (.if_icmp .ge 56, 3) := by decide +kernel
theorem dX11_burns_43 : decode cX11_burns 43 = .ok (.aload_n 0, 1) := by decide +kernel
theorem dX11_burns_44 : decode cX11_burns 44 = .ok (.getfield 61, 3) := by decide +kernel
theorem dX11_burns_47 : decode cX11_burns 47 = .ok (.iload_n 3, 1) := by decide +kernel
theorem dX11_burns_48 : decode cX11_burns 48 = .ok (.aload_n 0, 1) := by decide +kernel
theorem dX11_burns_49 : decode cX11_burns 49 = .ok (.getfield 58, 3) := by decide +kernel
theorem dX11_burns_52 : decode cX11_burns 52 = .ok (.iload_n 3, 1) := by decide +kernel
theorem dX11_burns_53 : decode cX11_burns 53 = .ok (.iaload, 1) := by decide +kernel
theorem dX11_burns_54 : decode cX11_burns 54 = .ok (.aload_n 0, 1) := by decide +kernel
theorem dX11_burns_55 : decode cX11_burns 55 = .ok (.getfield 46, 3) := by decide +kernel
theorem dX11_burns_58 : decode cX11_burns 58 = .ok (.iload_n 3, 1) := by decide +kernel
theorem dX11_burns_59 : decode cX11_burns 59 = .ok (.iaload, 1) := by decide +kernel
theorem dX11_burns_60 : decode cX11_burns 60 = .ok (.aload_n 0, 1) := by decide +kernel
theorem dX11_burns_61 : decode cX11_burns 61 = .ok (.getfield 55, 3) := by decide +kernel
theorem dX11_burns_64 : decode cX11_burns 64 = .ok (.iload_n 2, 1) := by decide +kernel
theorem dX11_burns_65 : decode cX11_burns 65 = .ok (.iaload, 1) := by decide +kernel
theorem dX11_burns_66 : decode cX11_burns 66 = .ok (.imul, 1) := by decide +kernel
theorem dX11_burns_67 : decode cX11_burns 67 = .ok (.iadd, 1) := by decide +kernel
theorem dX11_burns_68 : decode cX11_burns 68 = .ok (.aload_n 0, 1) := by decide +kernel
theorem dX11_burns_69 : decode cX11_burns 69 = .ok (.getfield 58, 3) := by decide +kernel
theorem dX11_burns_72 : decode cX11_burns 72 = .ok (.iload_n 3, 1) := by decide +kernel
theorem dX11_burns_73 : decode cX11_burns 73 = .ok (.iaload, 1) := by decide +kernel
theorem dX11_burns_74 : decode cX11_burns 74 = .ok (.i2l, 1) := by decide +kernel
theorem dX11_burns_75 : decode cX11_burns 75 = .ok (.aload_n 0, 1) := by decide +kernel
theorem dX11_burns_76 : decode cX11_burns 76 = .ok (.getfield 49, 3) := by decide +kernel
theorem dX11_burns_79 : decode cX11_burns 79 = .ok (.iload_n 3, 1) := by decide +kernel
theorem dX11_burns_80 : decode cX11_burns 80 = .ok (.iaload, 1) := by decide +kernel
theorem dX11_burns_81 : decode cX11_burns 81 = .ok (.i2l, 1) := by decide +kernel
theorem dX11_burns_82 : decode cX11_burns 82 = .ok (.lmul, 1) := by decide +kernel
theorem dX11_burns_83 : decode cX11_burns 83 = .ok (.ldc2_w 180, 3) := by decide +kernel
theorem dX11_burns_86 : decode cX11_burns 86 = .ok (.ldiv, 1) := by decide +kernel
theorem dX11_burns_87 : decode cX11_burns 87 = .ok (.l2i, 1) := by decide +kernel
theorem dX11_burns_88 : decode cX11_burns 88 = .ok (.isub, 1) := by decide +kernel
theorem dX11_burns_89 : decode cX11_burns 89 = .ok (.iastore, 1) := by decide +kernel
theorem dX11_burns_90 : decode cX11_burns 90 = .ok (.iinc 3 1, 3) := by decide +kernel
theorem dX11_burns_93 : decode cX11_burns 93 = .ok (.goto (-56), 3) := by decide +kernel
theorem dX11_burns_96 : decode cX11_burns 96 = .ok (.iconst 0, 1) := by decide +kernel
theorem dX11_burns_97 : decode cX11_burns 97 = .ok (.istore_n 3, 1) := by decide +kernel
theorem dX11_burns_98 : decode cX11_burns 98 = .ok (.iload_n 3, 1) := by decide +kernel
theorem dX11_burns_99 : decode cX11_burns 99 = .ok (.bipush 12, 2) := by decide +kernel
theorem dX11_burns_101 : decode cX11_burns 101 = .ok (.if_icmp .ge 114, 3) := by decide +kernel
theorem dX11_burns_104 : decode cX11_burns 104 = .ok (.iload_n 3, 1) := by decide +kernel
theorem dX11_burns_105 : decode cX11_burns 105 = .ok (.ifCond .le 21, 3) := by decide +kernel
theorem dX11_burns_108 : decode cX11_burns 108 = .ok (.aload_n 0, 1) := by decide +kernel
theorem dX11_burns_109 : decode cX11_burns 109 = .ok (.getfield 61, 3) := by decide +kernel
theorem dX11_burns_112 : decode cX11_burns 112 = .ok (.iload_n 3, 1) := by decide +kernel
theorem dX11_burns_113 : decode cX11_burns 113 = .ok (.iconst 1, 1) := by decide +kernel
theorem dX11_burns_114 : decode cX11_burns 114 = .ok (.isub, 1) := by decide +kernel
theorem dX11_burns_115 : decode cX11_burns 115 = .ok (.iaload, 1) := by decide +kernel
theorem dX11_burns_116 : decode cX11_burns 116 = .ok (.aload_n 0, 1) := by decide +kernel
theorem dX11_burns_117 : decode cX11_burns 117 = .ok (.getfield 61, 3) := by decide +kernel
theorem dX11_burns_120 : decode cX11_burns 120 = .ok (.iload_n 3, 1) := by decide +kernel
theorem dX11_burns_121 : decode cX11_burns 121 = .ok (.iaload, 1) := by decide +kernel
theorem dX11_burns_122 : decode cX11_burns 122 = .ok (.isub, 1) := by decide +kernel
theorem dX11_burns_123 : decode cX11_burns 123 = .ok (.goto 4, 3) := by decide +kernel
theorem dX11_burns_126 : decode cX11_burns 126 = .ok (.iconst 0, 1) := by decide +kernel
theorem dX11_burns_127 : decode cX11_burns 127 = .ok (.iload_n 3, 1) := by decide +kernel
theorem dX11_burns_128 : decode cX11_burns 128 = .ok (.iconst 1, 1) := by decide +kernel
theorem dX11_burns_129 : decode cX11_burns 129 = .ok (.iadd, 1) := by decide +kernel
theorem dX11_burns_130 : decode cX11_burns 130 = .ok (.bipush 12, 2) := by decide +kernel
theorem dX11_burns_132 : decode cX11_burns 132 = .ok (.if_icmp .ge 21, 3) := by decide +kernel
theorem dX11_burns_135 : decode cX11_burns 135 = .ok (.aload_n 0, 1) := by decide +kernel
theorem dX11_burns_136 : decode cX11_burns 136 = .ok (.getfield 61, 3) := by decide +kernel
theorem dX11_burns_139 : decode cX11_burns 139 = .ok (.iload_n 3, 1) := by decide +kernel
theorem dX11_burns_140 : decode cX11_burns 140 = .ok (.iconst 1, 1) := by decide +kernel
theorem dX11_burns_141 : decode cX11_burns 141 = .ok (.iadd, 1) := by decide +kernel
theorem dX11_burns_142 : decode cX11_burns 142 = .ok (.iaload, 1) := by decide +kernel
theorem dX11_burns_143 : decode cX11_burns 143 = .ok (.aload_n 0, 1) := by decide +kernel
theorem dX11_burns_144 : decode cX11_burns 144 = .ok (.getfield 61, 3) := by decide +kernel
theorem dX11_burns_147 : decode cX11_burns 147 = .ok (.iload_n 3, 1) := by decide +kernel
theorem dX11_burns_148 : decode cX11_burns 148 = .ok (.iaload, 1) := by decide +kernel
theorem dX11_burns_149 : decode cX11_burns 149 = .ok (.isub, 1) := by decide +kernel
theorem dX11_burns_150 : decode cX11_burns 150 = .ok (.goto 4, 3) := by decide +kernel
theorem dX11_burns_153 : decode cX11_burns 153 = .ok (.iconst 0, 1) := by decide +kernel
theorem dX11_burns_154 : decode cX11_burns 154 = .ok (.iadd, 1) := by decide +kernel
theorem dX11_burns_155 : decode cX11_burns 155 = .ok (.istore 4, 2) := by decide +kernel
theorem dX11_burns_157 : decode cX11_burns 157 = .ok (.aload_n 0, 1) := by decide +kernel
theorem dX11_burns_158 : decode cX11_burns 158 = .ok (.getfield 58, 3) := by decide +kernel
theorem dX11_burns_161 : decode cX11_burns 161 = .ok (.iload_n 3, 1) := by decide +kernel
theorem dX11_burns_162 : decode cX11_burns 162 = .ok (.aload_n 0, 1) := by decide +kernel
theorem dX11_burns_163 : decode cX11_burns 163 = .ok (.getfield 61, 3) := by decide +kernel
theorem dX11_burns_166 : decode cX11_burns 166 = .ok (.iload_n 3, 1) := by decide +kernel
theorem dX11_burns_167 : decode cX11_burns 167 = .ok (.iaload, 1) := by decide +kernel
theorem dX11_burns_168 : decode cX11_burns 168 = .ok (.iload 4, 2) := by decide +kernel
theorem dX11_burns_170 : decode cX11_burns 170 = .ok (.bipush 10, 2) := by decide +kernel
theorem dX11_burns_172 : decode cX11_burns 172 = .ok (.idiv, 1) := by decide +kernel
theorem dX11_burns_173 : decode cX11_burns 173 = .ok (.iadd, 1) := by decide +kernel
theorem dX11_burns_174 : decode cX11_burns 174 = .ok (.iastore, 1) := by decide +kernel
theorem dX11_burns_175 : decode cX11_burns 175 = .ok (.aload_n 0, 1) := by decide +kernel
theorem dX11_burns_176 : decode cX11_burns 176 = .ok (.getfield 64, 3) := by decide +kernel
theorem dX11_burns_179 : decode cX11_burns 179 = .ok (.iload_n 3, 1) := by decide +kernel
theorem dX11_burns_180 : decode cX11_burns 180 = .ok (.iload_n 2, 1) := by decide +kernel
theorem dX11_burns_181 : decode cX11_burns 181 = .ok (.ifCond .ne 12, 3) := by decide +kernel
theorem dX11_burns_184 : decode cX11_burns 184 = .ok (.aload_n 0, 1) := by decide +kernel
theorem dX11_burns_185 : decode cX11_burns 185 = .ok (.getfield 58, 3) := by decide +kernel
theorem dX11_burns_188 : decode cX11_burns 188 = .ok (.iload_n 3, 1) := by decide +kernel
theorem dX11_burns_189 : decode cX11_burns 189 = .ok (.iaload, 1) := by decide +kernel
theorem dX11_burns_190 : decode cX11_burns 190 = .ok (.goto 18, 3) := by decide +kernel
theorem dX11_burns_193 : decode cX11_burns 193 = .ok (.aload_n 0, 1) := by decide +kernel
theorem dX11_burns_194 : decode cX11_burns 194 = .ok (.getfield 64, 3) := by decide +kernel
theorem dX11_burns_197 : decode cX11_burns 197 = .ok (.iload_n 3, 1) := by decide +kernel
theorem dX11_burns_198 : decode cX11_burns 198 = .ok (.iaload, 1) := by decide +kernel
theorem dX11_burns_199 : decode cX11_burns 199 = .ok (.aload_n 0, 1) := by decide +kernel
theorem dX11_burns_200 : decode cX11_burns 200 = .ok (.getfield 58, 3) := by decide +kernel
theorem dX11_burns_203 : decode cX11_burns 203 = .ok (.iload_n 3, 1) := by decide +kernel
theorem dX11_burns_204 : decode cX11_burns 204 = .ok (.iaload, 1) := by decide +kernel
theorem dX11_burns_205 : decode cX11_burns 205 = .ok (.invokestatic 182, 3) := by decide +kernel
theorem dX11_burns_208 : decode cX11_burns 208 = .ok (.iastore, 1) := by decide +kernel
theorem dX11_burns_209 : decode cX11_burns 209 = .ok (.iinc 3 1, 3) := by decide +kernel
theorem dX11_burns_212 : decode cX11_burns 212 = .ok (.goto (-114), 3) := by decide +kernel
theorem dX11_burns_215 : decode cX11_burns 215 = .ok (.iinc 2 1, 3) := by decide +kernel
theorem dX11_burns_218 : decode cX11_burns 218 = .ok (.goto (-188), 3) := by decide +kernel
theorem dX11_burns_221 : decode cX11_burns 221 = .ok (.return_, 1) := by decide +kernel
theorem dX11_peak_0 : decode cX11_peak 0 = .ok (.iload_n 1, 1) := by decide +kernel
theorem dX11_peak_1 : decode cX11_peak 1 = .ok (.bipush 12, 2) := by decide +kernel
theorem dX11_peak_3 : decode cX11_peak 3 = .ok (.invokestatic 144, 3) := by decide +kernel
theorem dX11_peak_6 : decode cX11_peak 6 = .ok (.ifCond .ne 9, 3) := by decide +kernel
theorem dX11_peak_9 : decode cX11_peak 9 = .ok (.aload_n 0, 1) := by decide +kernel
theorem dX11_peak_10 : decode cX11_peak 10 = .ok (.iconst (-1), 1) := by decide +kernel
theorem dX11_peak_11 : decode cX11_peak 11 = .ok (.invokevirtual 152, 3) := by decide +kernel
theorem dX11_peak_14 : decode cX11_peak 14 = .ok (.ireturn, 1) := by decide +kernel
theorem dX11_peak_15 : decode cX11_peak 15 = .ok (.aload_n 0, 1) := by decide +kernel
theorem dX11_peak_16 : decode cX11_peak 16 = .ok (.aload_n 0, 1) := by decide +kernel
theorem dX11_peak_17 : decode cX11_peak 17 = .ok (.getfield 177, 3) := by decide +kernel
theorem dX11_peak_20 : decode cX11_peak 20 = .ok (.invokevirtual 187, 3) := by decide +kernel
theorem dX11_peak_23 : decode cX11_peak 23 = .ok (.aload_n 0, 1) := by decide +kernel
theorem dX11_peak_24 : decode cX11_peak 24 = .ok (.getfield 64, 3) := by decide +kernel
theorem dX11_peak_27 : decode cX11_peak 27 = .ok (.iload_n 1, 1) := by decide +kernel
theorem dX11_peak_28 : decode cX11_peak 28 = .ok (.iaload, 1) := by decide +kernel
theorem dX11_peak_29 : decode cX11_peak 29 = .ok (.ireturn, 1) := by decide +kernel
theorem dX11_heat_0 : decode cX11_heat 0 = .ok (.iload_n 1, 1) := by decide +kernel
theorem dX11_heat_1 : decode cX11_heat 1 = .ok (.bipush 12, 2) := by decide +kernel
theorem dX11_heat_3 : decode cX11_heat 3 = .ok (.invokestatic 144, 3) := by decide +kernel
theorem dX11_heat_6 : decode cX11_heat 6 = .ok (.ifCond .eq 15, 3) := by decide +kernel
theorem dX11_heat_9 : decode cX11_heat 9 = .ok (.iload_n 2, 1) := by decide +kernel
theorem dX11_heat_10 : decode cX11_heat 10 = .ok (.iconst 0, 1) := by decide +kernel
theorem dX11_heat_11 : decode cX11_heat 11 = .ok (.aload_n 0, 1) := by decide +kernel
theorem dX11_heat_12 : decode cX11_heat 12 = .ok (.getfield 177, 3) := by decide +kernel
theorem dX11_heat_15 : decode cX11_heat 15 = .ok (.invokestatic 148, 3) := by decide +kernel
theorem dX11_heat_18 : decode cX11_heat 18 = .ok (.goto 4, 3) := by decide +kernel
theorem dX11_heat_21 : decode cX11_heat 21 = .ok (.iconst (-1), 1) := by decide +kernel
theorem dX11_heat_22 : decode cX11_heat 22 = .ok (.istore_n 3, 1) := by decide +kernel
theorem dX11_heat_23 : decode cX11_heat 23 = .ok (.iload_n 3, 1) := by decide +kernel
theorem dX11_heat_24 : decode cX11_heat 24 = .ok (.ifCond .eq 9, 3) := by decide +kernel
theorem dX11_heat_27 : decode cX11_heat 27 = .ok (.aload_n 0, 1) := by decide +kernel
theorem dX11_heat_28 : decode cX11_heat 28 = .ok (.iload_n 3, 1) := by decide +kernel
theorem dX11_heat_29 : decode cX11_heat 29 = .ok (.invokevirtual 152, 3) := by decide +kernel
theorem dX11_heat_32 : decode cX11_heat 32 = .ok (.ireturn, 1) := by decide +kernel
theorem dX11_heat_33 : decode cX11_heat 33 = .ok (.aload_n 0, 1) := by decide +kernel
theorem dX11_heat_34 : decode cX11_heat 34 = .ok (.iload_n 2, 1) := by decide +kernel
theorem dX11_heat_35 : decode cX11_heat 35 = .ok (.invokevirtual 187, 3) := by decide +kernel
theorem dX11_heat_38 : decode cX11_heat 38 = .ok (.aload_n 0, 1) := by decide +kernel
theorem dX11_heat_39 : decode cX11_heat 39 = .ok (.getfield 58, 3) := by decide +kernel
theorem dX11_heat_42 : decode cX11_heat 42 = .ok (.iload_n 1, 1) := by decide +kernel
theorem dX11_heat_43 : decode cX11_heat 43 = .ok (.iaload, 1) := by decide +kernel
theorem dX11_heat_44 : decode cX11_heat 44 = .ok (.ireturn, 1) := by decide +kernel
theorem dX11_isPiece_0 : decode cX11_isPiece 0 = .ok (.iload_n 1, 1) := by decide +kernel
theorem dX11_isPiece_1 : decode cX11_isPiece 1 = .ok (.aload_n 0, 1) := by decide +kernel
theorem dX11_isPiece_2 : decode cX11_isPiece 2 = .ok (.getfield 174, 3) := by decide +kernel
theorem dX11_isPiece_5 : decode cX11_isPiece 5 = .ok (.invokestatic 144, 3) := by decide +kernel
theorem dX11_isPiece_8 : decode cX11_isPiece 8 = .ok (.ireturn, 1) := by decide +kernel
theorem dX11_stack_0 : decode cX11_stack 0 = .ok (.aload_n 0, 1) := by decide +kernel
theorem dX11_stack_1 : decode cX11_stack 1 = .ok (.iload_n 1, 1) := by decide +kernel
theorem dX11_stack_2 : decode cX11_stack 2 = .ok (.invokevirtual 190, 3) := by decide +kernel
theorem dX11_stack_5 : decode cX11_stack 5 = .ok (.ifCond .eq 12, 3) := by decide +kernel
theorem dX11_stack_8 : decode cX11_stack 8 = .ok (.iload_n 2, 1) := by decide +kernel
theorem dX11_stack_9 : decode cX11_stack 9 = .ok (.bipush 12, 2) := by decide +kernel
theorem dX11_stack_11 : decode cX11_stack 11 = .ok (.invokestatic 144, 3) := by decide +kernel
theorem dX11_stack_14 : decode cX11_stack 14 = .ok (.ifCond .ne 9, 3) := by decide +kernel
theorem dX11_stack_17 : decode cX11_stack 17 = .ok (.aload_n 0, 1) := by decide +kernel
theorem dX11_stack_18 : decode cX11_stack 18 = .ok (.iconst (-1), 1) := by decide +kernel
theorem dX11_stack_19 : decode cX11_stack 19 = .ok (.invokevirtual 152, 3) := by decide +kernel
theorem dX11_stack_22 : decode cX11_stack 22 = .ok (.ireturn, 1) := by decide +kernel
theorem dX11_stack_23 : decode cX11_stack 23 = .ok (.aload_n 0, 1) := by decide +kernel
theorem dX11_stack_24 : decode cX11_stack 24 = .ok (.getfield 34, 3) := by decide +kernel
theorem dX11_stack_27 : decode cX11_stack 27 = .ok (.iload_n 1, 1) := by decide +kernel
theorem dX11_stack_28 : decode cX11_stack 28 = .ok (.iaload, 1) := by decide +kernel
theorem dX11_stack_29 : decode cX11_stack 29 = .ok (.ifCond .ne 29, 3) := by decide +kernel
theorem dX11_stack_32 : decode cX11_stack 32 = .ok (.aload_n 0, 1) := by decide +kernel
theorem dX11_stack_33 : decode cX11_stack 33 = .ok (.getfield 37, 3) := by decide +kernel
theorem dX11_stack_36 : decode cX11_stack 36 = .ok (.iload_n 1, 1) := by decide +kernel
theorem dX11_stack_37 : decode cX11_stack 37 = .ok (.iaload, 1) := by decide +kernel
theorem dX11_stack_38 : decode cX11_stack 38 = .ok (.ifCond .ge 20, 3) := by decide +kernel
theorem dX11_stack_41 : decode cX11_stack 41 = .ok (.aload_n 0, 1) := by decide +kernel
theorem dX11_stack_42 : decode cX11_stack 42 = .ok (.iload_n 1, 1) := by decide +kernel
theorem dX11_stack_43 : decode cX11_stack 43 = .ok (.invokevirtual 194, 3) := by decide +kernel
theorem dX11_stack_46 : decode cX11_stack 46 = .ok (.ifCond .ne 12, 3) := by decide +kernel
theorem dX11_stack_49 : decode cX11_stack 49 = .ok (.aload_n 0, 1) := by decide +kernel
theorem dX11_stack_50 : decode cX11_stack 50 = .ok (.getfield 52, 3) := by decide +kernel
theorem dX11_stack_53 : decode cX11_stack 53 = .ok (.iload_n 2, 1) := by decide +kernel
theorem dX11_stack_54 : decode cX11_stack 54 = .ok (.iaload, 1) := by decide +kernel
theorem dX11_stack_55 : decode cX11_stack 55 = .ok (.ifCond .lt 10, 3) := by decide +kernel
theorem dX11_stack_58 : decode cX11_stack 58 = .ok (.aload_n 0, 1) := by decide +kernel
theorem dX11_stack_59 : decode cX11_stack 59 = .ok (.bipush (-3), 2) := by decide +kernel
theorem dX11_stack_61 : decode cX11_stack 61 = .ok (.invokevirtual 152, 3) := by decide +kernel
theorem dX11_stack_64 : decode cX11_stack 64 = .ok (.ireturn, 1) := by decide +kernel
theorem dX11_stack_65 : decode cX11_stack 65 = .ok (.aload_n 0, 1) := by decide +kernel
theorem dX11_stack_66 : decode cX11_stack 66 = .ok (.getfield 52, 3) := by decide +kernel
theorem dX11_stack_69 : decode cX11_stack 69 = .ok (.iload_n 2, 1) := by decide +kernel
theorem dX11_stack_70 : decode cX11_stack 70 = .ok (.iload_n 1, 1) := by decide +kernel
theorem dX11_stack_71 : decode cX11_stack 71 = .ok (.iastore, 1) := by decide +kernel
theorem dX11_stack_72 : decode cX11_stack 72 = .ok (.aload_n 0, 1) := by decide +kernel
theorem dX11_stack_73 : decode cX11_stack 73 = .ok (.getfield 37, 3) := by decide +kernel
theorem dX11_stack_76 : decode cX11_stack 76 = .ok (.iload_n 1, 1) := by decide +kernel
theorem dX11_stack_77 : decode cX11_stack 77 = .ok (.iload_n 2, 1) := by decide +kernel
theorem dX11_stack_78 : decode cX11_stack 78 = .ok (.iastore, 1) := by decide +kernel
theorem dX11_stack_79 : decode cX11_stack 79 = .ok (.iconst 1, 1) := by decide +kernel
theorem dX11_stack_80 : decode cX11_stack 80 = .ok (.ireturn, 1) := by decide +kernel
theorem dX11_takes_0 : decode cX11_takes 0 = .ok (.aload_n 0, 1) := by decide +kernel
theorem dX11_takes_1 : decode cX11_takes 1 = .ok (.getfield 52, 3) := by decide +kernel
theorem dX11_takes_4 : decode cX11_takes 4 = .ok (.iload_n 1, 1) := by decide +kernel
theorem dX11_takes_5 : decode cX11_takes 5 = .ok (.iaload, 1) := by decide +kernel
theorem dX11_takes_6 : decode cX11_takes 6 = .ok (.istore_n 2, 1) := by decide +kernel
theorem dX11_takes_7 : decode cX11_takes 7 = .ok (.aload_n 0, 1) := by decide +kernel
theorem dX11_takes_8 : decode cX11_takes 8 = .ok (.getfield 52, 3) := by decide +kernel
theorem dX11_takes_11 : decode cX11_takes 11 = .ok (.iload_n 1, 1) := by decide +kernel
theorem dX11_takes_12 : decode cX11_takes 12 = .ok (.bipush (-9), 2) := by decide +kernel
theorem dX11_takes_14 : decode cX11_takes 14 = .ok (.iastore, 1) := by decide +kernel
theorem dX11_takes_15 : decode cX11_takes 15 = .ok (.aload_n 0, 1) := by decide +kernel
theorem dX11_takes_16 : decode cX11_takes 16 = .ok (.getfield 37, 3) := by decide +kernel
theorem dX11_takes_19 : decode cX11_takes 19 = .ok (.iload_n 2, 1) := by decide +kernel
theorem dX11_takes_20 : decode cX11_takes 20 = .ok (.bipush (-9), 2) := by decide +kernel
theorem dX11_takes_22 : decode cX11_takes 22 = .ok (.iastore, 1) := by decide +kernel
theorem dX11_takes_23 : decode cX11_takes 23 = .ok (.iload_n 2, 1) := by decide +kernel
theorem dX11_takes_24 : decode cX11_takes 24 = .ok (.ireturn, 1) := by decide +kernel
theorem dX11_unstack_0 : decode cX11_unstack 0 = .ok (.iload_n 1, 1) := by decide +kernel
theorem dX11_unstack_1 : decode cX11_unstack 1 = .ok (.bipush 12, 2) := by decide +kernel
theorem dX11_unstack_3 : decode cX11_unstack 3 = .ok (.invokestatic 144, 3) := by decide +kernel
theorem dX11_unstack_6 : decode cX11_unstack 6 = .ok (.ifCond .ne 9, 3) := by decide +kernel
theorem dX11_unstack_9 : decode cX11_unstack 9 = .ok (.aload_n 0, 1) := by decide +kernel
theorem dX11_unstack_10 : decode cX11_unstack 10 = .ok (.iconst (-1), 1) := by decide +kernel
theorem dX11_unstack_11 : decode cX11_unstack 11 = .ok (.invokevirtual 152, 3) := by decide +kernel
theorem dX11_unstack_14 : decode cX11_unstack 14 = .ok (.ireturn, 1) := by decide +kernel
theorem dX11_unstack_15 : decode cX11_unstack 15 = .ok (.aload_n 0, 1) := by decide +kernel
theorem dX11_unstack_16 : decode cX11_unstack 16 = .ok (.getfield 52, 3) := by decide +kernel
theorem dX11_unstack_19 : decode cX11_unstack 19 = .ok (.iload_n 1, 1) := by decide +kernel
theorem dX11_unstack_20 : decode cX11_unstack 20 = .ok (.iaload, 1) := by decide +kernel
theorem dX11_unstack_21 : decode cX11_unstack 21 = .ok (.ifCond .ge 12, 3) := by decide +kernel
theorem dX11_unstack_24 : decode cX11_unstack 24 = .ok (.aload_n 0, 1) := by decide +kernel
theorem dX11_unstack_25 : decode cX11_unstack 25 = .ok (.bipush (-3), 2) := by decide +kernel
theorem dX11_unstack_27 : decode cX11_unstack 27 = .ok (.invokevirtual 152, 3) := by decide +kernel
theorem dX11_unstack_30 : decode cX11_unstack 30 = .ok (.goto 8, 3) := by decide +kernel
theorem dX11_unstack_33 : decode cX11_unstack 33 = .ok (.aload_n 0, 1) := by decide +kernel
theorem dX11_unstack_34 : decode cX11_unstack 34 = .ok (.iload_n 1, 1) := by decide +kernel
theorem dX11_unstack_35 : decode cX11_unstack 35 = .ok (.invokevirtual 197, 3) := by decide +kernel
theorem dX11_unstack_38 : decode cX11_unstack 38 = .ok (.ireturn, 1) := by decide +kernel
theorem dX11_pasteOf_0 : decode cX11_pasteOf 0 = .ok (.aload_n 0, 1) := by decide +kernel
theorem dX11_pasteOf_1 : decode cX11_pasteOf 1 = .ok (.getfield 13, 3) := by decide +kernel
theorem dX11_pasteOf_4 : decode cX11_pasteOf 4 = .ok (.iconst 4, 1) := by decide +kernel
theorem dX11_pasteOf_5 : decode cX11_pasteOf 5 = .ok (.aload_n 0, 1) := by decide +kernel
theorem dX11_pasteOf_6 : decode cX11_pasteOf 6 = .ok (.getfield 16, 3) := by decide +kernel
theorem dX11_pasteOf_9 : decode cX11_pasteOf 9 = .ok (.aload_n 0, 1) := by decide +kernel
theorem dX11_pasteOf_10 : decode cX11_pasteOf 10 = .ok (.getfield 25, 3) := by decide +kernel
theorem dX11_pasteOf_13 : decode cX11_pasteOf 13 = .ok (.iload_n 1, 1) := by decide +kernel
theorem dX11_pasteOf_14 : decode cX11_pasteOf 14 = .ok (.iaload, 1) := by decide +kernel
theorem dX11_pasteOf_15 : decode cX11_pasteOf 15 = .ok (.iaload, 1) := by decide +kernel
theorem dX11_pasteOf_16 : decode cX11_pasteOf 16 = .ok (.imul, 1) := by decide +kernel
theorem dX11_pasteOf_17 : decode cX11_pasteOf 17 = .ok (.iload_n 2, 1) := by decide +kernel
theorem dX11_pasteOf_18 : decode cX11_pasteOf 18 = .ok (.iadd, 1) := by decide +kernel
theorem dX11_pasteOf_19 : decode cX11_pasteOf 19 = .ok (.iaload, 1) := by decide +kernel
theorem dX11_pasteOf_20 : decode cX11_pasteOf 20 = .ok (.ireturn, 1) := by decide +kernel
theorem dX11_bears_0 : decode cX11_bears 0 = .ok (.aload_n 0, 1) := by decide +kernel
theorem dX11_bears_1 : decode cX11_bears 1 = .ok (.getfield 64, 3) := by decide +kernel
theorem dX11_bears_4 : decode cX11_bears 4 = .ok (.iload_n 2, 1) := by decide +kernel
theorem dX11_bears_5 : decode cX11_bears 5 = .ok (.iaload, 1) := by decide +kernel
theorem dX11_bears_6 : decode cX11_bears 6 = .ok (.aload_n 0, 1) := by decide +kernel
theorem dX11_bears_7 : decode cX11_bears 7 = .ok (.iload_n 1, 1) := by decide +kernel
theorem dX11_bears_8 : decode cX11_bears 8 = .ok (.iconst 2, 1) := by decide +kernel
theorem dX11_bears_9 : decode cX11_bears 9 = .ok (.invokevirtual 200, 3) := by decide +kernel
theorem dX11_bears_12 : decode cX11_bears 12 = .ok (.if_icmp .lt 22, 3) := by decide +kernel
theorem dX11_bears_15 : decode cX11_bears 15 = .ok (.aload_n 0, 1) := by decide +kernel
theorem dX11_bears_16 : decode cX11_bears 16 = .ok (.getfield 64, 3) := by decide +kernel
theorem dX11_bears_19 : decode cX11_bears 19 = .ok (.iload_n 2, 1) := by decide +kernel
theorem dX11_bears_20 : decode cX11_bears 20 = .ok (.iaload, 1) := by decide +kernel
theorem dX11_bears_21 : decode cX11_bears 21 = .ok (.aload_n 0, 1) := by decide +kernel
theorem dX11_bears_22 : decode cX11_bears 22 = .ok (.iload_n 1, 1) := by decide +kernel
theorem dX11_bears_23 : decode cX11_bears 23 = .ok (.iconst 3, 1) := by decide +kernel
theorem dX11_bears_24 : decode cX11_bears 24 = .ok (.invokevirtual 200, 3) := by decide +kernel
theorem dX11_bears_27 : decode cX11_bears 27 = .ok (.if_icmp .gt 7, 3) := by decide +kernel
theorem dX11_bears_30 : decode cX11_bears 30 = .ok (.iconst 1, 1) := by decide +kernel
theorem dX11_bears_31 : decode cX11_bears 31 = .ok (.goto 4, 3) := by decide +kernel
theorem dX11_bears_34 : decode cX11_bears 34 = .ok (.iconst 0, 1) := by decide +kernel
theorem dX11_bears_35 : decode cX11_bears 35 = .ok (.ireturn, 1) := by decide +kernel
theorem dX11_fire_0 : decode cX11_fire 0 = .ok (.aload_n 0, 1) := by decide +kernel
theorem dX11_fire_1 : decode cX11_fire 1 = .ok (.getfield 177, 3) := by decide +kernel
theorem dX11_fire_4 : decode cX11_fire 4 = .ok (.ifCond .ne 10, 3) := by decide +kernel
theorem dX11_fire_7 : decode cX11_fire 7 = .ok (.aload_n 0, 1) := by decide +kernel
theorem dX11_fire_8 : decode cX11_fire 8 = .ok (.bipush (-3), 2) := by decide +kernel
theorem dX11_fire_10 : decode cX11_fire 10 = .ok (.invokevirtual 152, 3) := by decide +kernel
theorem dX11_fire_13 : decode cX11_fire 13 = .ok (.ireturn, 1) := by decide +kernel
theorem dX11_fire_14 : decode cX11_fire 14 = .ok (.aload_n 0, 1) := by decide +kernel
theorem dX11_fire_15 : decode cX11_fire 15 = .ok (.getfield 160, 3) := by decide +kernel
theorem dX11_fire_18 : decode cX11_fire 18 = .ok (.iconst 2, 1) := by decide +kernel
theorem dX11_fire_19 : decode cX11_fire 19 = .ok (.iadd, 1) := by decide +kernel
theorem dX11_fire_20 : decode cX11_fire 20 = .ok (.sipush 4000, 3) := by decide +kernel
theorem dX11_fire_23 : decode cX11_fire 23 = .ok (.if_icmp .le 10, 3) := by decide +kernel
theorem dX11_fire_26 : decode cX11_fire 26 = .ok (.aload_n 0, 1) := by decide +kernel
theorem dX11_fire_27 : decode cX11_fire 27 = .ok (.bipush (-6), 2) := by decide +kernel
theorem dX11_fire_29 : decode cX11_fire 29 = .ok (.invokevirtual 152, 3) := by decide +kernel
theorem dX11_fire_32 : decode cX11_fire 32 = .ok (.ireturn, 1) := by decide +kernel
theorem dX11_fire_33 : decode cX11_fire 33 = .ok (.aload_n 0, 1) := by decide +kernel
theorem dX11_fire_34 : decode cX11_fire 34 = .ok (.aload_n 0, 1) := by decide +kernel
theorem dX11_fire_35 : decode cX11_fire 35 = .ok (.getfield 177, 3) := by decide +kernel
theorem dX11_fire_38 : decode cX11_fire 38 = .ok (.invokevirtual 187, 3) := by decide +kernel
theorem dX11_fire_41 : decode cX11_fire 41 = .ok (.iconst 0, 1) := by decide +kernel
theorem dX11_fire_42 : decode cX11_fire 42 = .ok (.istore_n 1, 1) := by decide +kernel
theorem dX11_fire_43 : decode cX11_fire 43 = .ok (.iconst 0, 1) := by decide +kernel
theorem dX11_fire_44 : decode cX11_fire 44 = .ok (.istore_n 2, 1) := by decide +kernel
theorem dX11_fire_45 : decode cX11_fire 45 = .ok (.iload_n 2, 1) := by decide +kernel
theorem dX11_fire_46 : decode cX11_fire 46 = .ok (.bipush 12, 2) := by decide +kernel
theorem dX11_fire_48 : decode cX11_fire 48 = .ok (.if_icmp .ge 134, 3) := by decide +kernel
theorem dX11_fire_51 : decode cX11_fire 51 = .ok (.aload_n 0, 1) := by decide +kernel
theorem dX11_fire_52 : decode cX11_fire 52 = .ok (.getfield 52, 3) := by decide +kernel
theorem dX11_fire_55 : decode cX11_fire 55 = .ok (.iload_n 2, 1) := by decide +kernel
theorem dX11_fire_56 : decode cX11_fire 56 = .ok (.iaload, 1) := by decide +kernel
theorem dX11_fire_57 : decode cX11_fire 57 = .ok (.ifCond .ge 6, 3) := by decide +kernel
theorem dX11_fire_60 : decode cX11_fire 60 = .ok (.goto 116, 3) := by decide +kernel
theorem dX11_fire_63 : decode cX11_fire 63 = .ok (.aload_n 0, 1) := by decide +kernel
theorem dX11_fire_64 : decode cX11_fire 64 = .ok (.iload_n 2, 1) := by decide +kernel
theorem dX11_fire_65 : decode cX11_fire 65 = .ok (.invokevirtual 197, 3) := by decide +kernel
theorem dX11_fire_68 : decode cX11_fire 68 = .ok (.istore_n 3, 1) := by decide +kernel
theorem dX11_fire_69 : decode cX11_fire 69 = .ok (.aload_n 0, 1) := by decide +kernel
theorem dX11_fire_70 : decode cX11_fire 70 = .ok (.getfield 40, 3) := by decide +kernel
theorem dX11_fire_73 : decode cX11_fire 73 = .ok (.iload_n 3, 1) := by decide +kernel
theorem dX11_fire_74 : decode cX11_fire 74 = .ok (.aload_n 0, 1) := by decide +kernel
theorem dX11_fire_75 : decode cX11_fire 75 = .ok (.getfield 64, 3) := by decide +kernel
theorem dX11_fire_78 : decode cX11_fire 78 = .ok (.iload_n 2, 1) := by decide +kernel
theorem dX11_fire_79 : decode cX11_fire 79 = .ok (.iaload, 1) := by decide +kernel
theorem dX11_fire_80 : decode cX11_fire 80 = .ok (.iastore, 1) := by decide +kernel
theorem dX11_fire_81 : decode cX11_fire 81 = .ok (.aload_n 0, 1) := by decide +kernel
theorem dX11_fire_82 : decode cX11_fire 82 = .ok (.iload_n 3, 1) := by decide +kernel
theorem dX11_fire_83 : decode cX11_fire 83 = .ok (.iload_n 2, 1) := by decide +kernel
theorem dX11_fire_84 : decode cX11_fire 84 = .ok (.invokevirtual 203, 3) := by decide +kernel
theorem dX11_fire_87 : decode cX11_fire 87 = .ok (.ifCond .ne 13, 3) := by decide +kernel
theorem dX11_fire_90 : decode cX11_fire 90 = .ok (.aload_n 0, 1) := by decide +kernel
theorem dX11_fire_91 : decode cX11_fire 91 = .ok (.getfield 34, 3) := by decide +kernel
theorem dX11_fire_94 : decode cX11_fire 94 = .ok (.iload_n 3, 1) := by decide +kernel
theorem dX11_fire_95 : decode cX11_fire 95 = .ok (.iconst 3, 1) := by decide +kernel
theorem dX11_fire_96 : decode cX11_fire 96 = .ok (.iastore, 1) := by decide +kernel
theorem dX11_fire_97 : decode cX11_fire 97 = .ok (.goto 79, 3) := by decide +kernel
theorem dX11_fire_100 : decode cX11_fire 100 = .ok (.aload_n 0, 1) := by decide +kernel
theorem dX11_fire_101 : decode cX11_fire 101 = .ok (.getfield 34, 3) := by decide +kernel
theorem dX11_fire_104 : decode cX11_fire 104 = .ok (.iload_n 3, 1) := by decide +kernel
theorem dX11_fire_105 : decode cX11_fire 105 = .ok (.iconst 1, 1) := by decide +kernel
theorem dX11_fire_106 : decode cX11_fire 106 = .ok (.iastore, 1) := by decide +kernel
theorem dX11_fire_107 : decode cX11_fire 107 = .ok (.aload_n 0, 1) := by decide +kernel
theorem dX11_fire_108 : decode cX11_fire 108 = .ok (.getfield 31, 3) := by decide +kernel
theorem dX11_fire_111 : decode cX11_fire 111 = .ok (.iload_n 3, 1) := by decide +kernel
theorem dX11_fire_112 : decode cX11_fire 112 = .ok (.dup2, 1) := by decide +kernel
theorem dX11_fire_113 : decode cX11_fire 113 = .ok (.iaload, 1) := by decide +kernel
theorem dX11_fire_114 : decode cX11_fire 114 = .ok (.aload_n 0, 1) := by decide +kernel
theorem dX11_fire_115 : decode cX11_fire 115 = .ok (.getfield 31, 3) := by decide +kernel
theorem dX11_fire_118 : decode cX11_fire 118 = .ok (.iload_n 3, 1) := by decide +kernel
theorem dX11_fire_119 : decode cX11_fire 119 = .ok (.iaload, 1) := by decide +kernel
theorem dX11_fire_120 : decode cX11_fire 120 = .ok (.aload_n 0, 1) := by decide +kernel
theorem dX11_fire_121 : decode cX11_fire 121 = .ok (.iload_n 3, 1) := by decide +kernel
theorem dX11_fire_122 : decode cX11_fire 122 = .ok (.iconst 1, 1) := by decide +kernel
theorem dX11_fire_123 : decode cX11_fire 123 = .ok (.invokevirtual 200, 3) := by decide +kernel
theorem dX11_fire_126 : decode cX11_fire 126 = .ok (.imul, 1) := by decide +kernel
theorem dX11_fire_127 : decode cX11_fire 127 = .ok (.sipush 1000, 3) := by decide +kernel
theorem dX11_fire_130 : decode cX11_fire 130 = .ok (.idiv, 1) := by decide +kernel
theorem dX11_fire_131 : decode cX11_fire 131 = .ok (.isub, 1) := by decide +kernel
theorem dX11_fire_132 : decode cX11_fire 132 = .ok (.iastore, 1) := by decide +kernel
theorem dX11_fire_133 : decode cX11_fire 133 = .ok (.aload_n 0, 1) := by decide +kernel
theorem dX11_fire_134 : decode cX11_fire 134 = .ok (.getfield 43, 3) := by decide +kernel
theorem dX11_fire_137 : decode cX11_fire 137 = .ok (.iload_n 3, 1) := by decide +kernel
theorem dX11_fire_138 : decode cX11_fire 138 = .ok (.iconst 0, 1) := by decide +kernel
theorem dX11_fire_139 : decode cX11_fire 139 = .ok (.bipush 100, 2) := by decide +kernel
theorem dX11_fire_141 : decode cX11_fire 141 = .ok (.aload_n 0, 1) := by decide +kernel
theorem dX11_fire_142 : decode cX11_fire 142 = .ok (.getfield 64, 3) := by decide +kernel
theorem dX11_fire_145 : decode cX11_fire 145 = .ok (.iload_n 2, 1) := by decide +kernel
theorem dX11_fire_146 : decode cX11_fire 146 = .ok (.iaload, 1) := by decide +kernel
theorem dX11_fire_147 : decode cX11_fire 147 = .ok (.aload_n 0, 1) := by decide +kernel
theorem dX11_fire_148 : decode cX11_fire 148 = .ok (.iload_n 3, 1) := by decide +kernel
theorem dX11_fire_149 : decode cX11_fire 149 = .ok (.iconst 2, 1) := by decide +kernel
theorem dX11_fire_150 : decode cX11_fire 150 = .ok (.invokevirtual 200, 3) := by decide +kernel
theorem dX11_fire_153 : decode cX11_fire 153 = .ok (.aload_n 0, 1) := by decide +kernel
theorem dX11_fire_154 : decode cX11_fire 154 = .ok (.iload_n 3, 1) := by decide +kernel
theorem dX11_fire_155 : decode cX11_fire 155 = .ok (.iconst 3, 1) := by decide +kernel
theorem dX11_fire_156 : decode cX11_fire 156 = .ok (.invokevirtual 200, 3) := by decide +kernel
theorem dX11_fire_159 : decode cX11_fire 159 = .ok (.iadd, 1) := by decide +kernel
theorem dX11_fire_160 : decode cX11_fire 160 = .ok (.iconst 2, 1) := by decide +kernel
theorem dX11_fire_161 : decode cX11_fire 161 = .ok (.idiv, 1) := by decide +kernel
theorem dX11_fire_162 : decode cX11_fire 162 = .ok (.isub, 1) := by decide +kernel
theorem dX11_fire_163 : decode cX11_fire 163 = .ok (.invokestatic 206, 3) := by decide +kernel
theorem dX11_fire_166 : decode cX11_fire 166 = .ok (.iconst 5, 1) := by decide +kernel
theorem dX11_fire_167 : decode cX11_fire 167 = .ok (.idiv, 1) := by decide +kernel
theorem dX11_fire_168 : decode cX11_fire 168 = .ok (.isub, 1) := by decide +kernel
theorem dX11_fire_169 : decode cX11_fire 169 = .ok (.invokestatic 182, 3) := by decide +kernel
theorem dX11_fire_172 : decode cX11_fire 172 = .ok (.iastore, 1) := by decide +kernel
theorem dX11_fire_173 : decode cX11_fire 173 = .ok (.iinc 1 1, 3) := by decide +kernel
theorem dX11_fire_176 : decode cX11_fire 176 = .ok (.iinc 2 1, 3) := by decide +kernel
theorem dX11_fire_179 : decode cX11_fire 179 = .ok (.goto (-134), 3) := by decide +kernel
theorem dX11_fire_182 : decode cX11_fire 182 = .ok (.iconst 0, 1) := by decide +kernel
theorem dX11_fire_183 : decode cX11_fire 183 = .ok (.istore_n 2, 1) := by decide +kernel
theorem dX11_fire_184 : decode cX11_fire 184 = .ok (.iload_n 2, 1) := by decide +kernel
theorem dX11_fire_185 : decode cX11_fire 185 = .ok (.aload_n 0, 1) := by decide +kernel
theorem dX11_fire_186 : decode cX11_fire 186 = .ok (.getfield 177, 3) := by decide +kernel
theorem dX11_fire_189 : decode cX11_fire 189 = .ok (.if_icmp .ge 24, 3) := by decide +kernel
theorem dX11_fire_192 : decode cX11_fire 192 = .ok (.aload_n 0, 1) := by decide +kernel
theorem dX11_fire_193 : decode cX11_fire 193 = .ok (.dup, 1) := by decide +kernel
theorem dX11_fire_194 : decode cX11_fire 194 = .ok (.getfield 209, 3) := by decide +kernel
theorem dX11_fire_197 : decode cX11_fire 197 = .ok (.aload_n 0, 1) := by decide +kernel
theorem dX11_fire_198 : decode cX11_fire 198 = .ok (.getfield 55, 3) := by decide +kernel
theorem dX11_fire_201 : decode cX11_fire 201 = .ok (.iload_n 2, 1) := by decide +kernel
theorem dX11_fire_202 : decode cX11_fire 202 = .ok (.iaload, 1) := by decide +kernel
theorem dX11_fire_203 : decode cX11_fire 203 = .ok (.iadd, 1) := by decide +kernel
theorem dX11_fire_204 : decode cX11_fire 204 = .ok (.putfield 209, 3) := by decide +kernel
theorem dX11_fire_207 : decode cX11_fire 207 = .ok (.iinc 2 1, 3) := by decide +kernel
theorem dX11_fire_210 : decode cX11_fire 210 = .ok (.goto (-26), 3) := by decide +kernel
theorem dX11_fire_213 : decode cX11_fire 213 = .ok (.aload_n 0, 1) := by decide +kernel
theorem dX11_fire_214 : decode cX11_fire 214 = .ok (.iconst 0, 1) := by decide +kernel
theorem dX11_fire_215 : decode cX11_fire 215 = .ok (.putfield 177, 3) := by decide +kernel
theorem dX11_fire_218 : decode cX11_fire 218 = .ok (.aload_n 0, 1) := by decide +kernel
theorem dX11_fire_219 : decode cX11_fire 219 = .ok (.iconst 2, 1) := by decide +kernel
theorem dX11_fire_220 : decode cX11_fire 220 = .ok (.invokevirtual 170, 3) := by decide +kernel
theorem dX11_fire_223 : decode cX11_fire 223 = .ok (.iload_n 1, 1) := by decide +kernel
theorem dX11_fire_224 : decode cX11_fire 224 = .ok (.ireturn, 1) := by decide +kernel
theorem dX11_isWanted_0 : decode cX11_isWanted 0 = .ok (.iconst 0, 1) := by decide +kernel
theorem dX11_isWanted_1 : decode cX11_isWanted 1 = .ok (.istore_n 2, 1) := by decide +kernel
theorem dX11_isWanted_2 : decode cX11_isWanted 2 = .ok (.iconst 0, 1) := by decide +kernel
theorem dX11_isWanted_3 : decode cX11_isWanted 3 = .ok (.istore_n 3, 1) := by decide +kernel
theorem dX11_isWanted_4 : decode cX11_isWanted 4 = .ok (.iload_n 3, 1) := by decide +kernel
theorem dX11_isWanted_5 : decode cX11_isWanted 5 = .ok (.aload_n 0, 1) := by decide +kernel
theorem dX11_isWanted_6 : decode cX11_isWanted 6 = .ok (.getfield 212, 3) := by decide +kernel
theorem dX11_isWanted_9 : decode cX11_isWanted 9 = .ok (.if_icmp .ge 29, 3) := by decide +kernel
theorem dX11_isWanted_12 : decode cX11_isWanted 12 = .ok (.iload_n 2, 1) := by decide +kernel
theorem dX11_isWanted_13 : decode cX11_isWanted 13 = .ok (.ifCond .ne 13, 3) := by decide +kernel
theorem dX11_isWanted_16 : decode cX11_isWanted 16 = .ok (.aload_n 0, 1) := by decide +kernel
theorem dX11_isWanted_17 : decode cX11_isWanted 17 = .ok (.getfield 67, 3) := by decide +kernel
theorem dX11_isWanted_20 : decode cX11_isWanted 20 = .ok (.iload_n 3, 1) := by decide +kernel
theorem dX11_isWanted_21 : decode cX11_isWanted 21 = .ok (.iaload, 1) := by decide +kernel
theorem dX11_isWanted_22 : decode cX11_isWanted 22 = .ok (.iload_n 1, 1) := by decide +kernel
theorem dX11_isWanted_23 : decode cX11_isWanted 23 = .ok (.if_icmp .ne 7, 3) := by decide +kernel
theorem dX11_isWanted_26 : decode cX11_isWanted 26 = .ok (.iconst 1, 1) := by decide +kernel
theorem dX11_isWanted_27 : decode cX11_isWanted 27 = .ok (.goto 4, 3) := by decide +kernel
theorem dX11_isWanted_30 : decode cX11_isWanted 30 = .ok (.iconst 0, 1) := by decide +kernel
theorem dX11_isWanted_31 : decode cX11_isWanted 31 = .ok (.istore_n 2, 1) := by decide +kernel
theorem dX11_isWanted_32 : decode cX11_isWanted 32 = .ok (.iinc 3 1, 3) := by decide +kernel
theorem dX11_isWanted_35 : decode cX11_isWanted 35 = .ok (.goto (-31), 3) := by decide +kernel
theorem dX11_isWanted_38 : decode cX11_isWanted 38 = .ok (.iload_n 2, 1) := by decide +kernel
theorem dX11_isWanted_39 : decode cX11_isWanted 39 = .ok (.ireturn, 1) := by decide +kernel
theorem dX11_want_0 : decode cX11_want 0 = .ok (.aload_n 0, 1) := by decide +kernel
theorem dX11_want_1 : decode cX11_want 1 = .ok (.iload_n 1, 1) := by decide +kernel
theorem dX11_want_2 : decode cX11_want 2 = .ok (.invokevirtual 190, 3) := by decide +kernel
theorem dX11_want_5 : decode cX11_want 5 = .ok (.ifCond .ne 9, 3) := by decide +kernel
theorem dX11_want_8 : decode cX11_want 8 = .ok (.aload_n 0, 1) := by decide +kernel
theorem dX11_want_9 : decode cX11_want 9 = .ok (.iconst (-1), 1) := by decide +kernel
theorem dX11_want_10 : decode cX11_want 10 = .ok (.invokevirtual 152, 3) := by decide +kernel
theorem dX11_want_13 : decode cX11_want 13 = .ok (.ireturn, 1) := by decide +kernel
theorem dX11_want_14 : decode cX11_want 14 = .ok (.aload_n 0, 1) := by decide +kernel
theorem dX11_want_15 : decode cX11_want 15 = .ok (.getfield 34, 3) := by decide +kernel
theorem dX11_want_18 : decode cX11_want 18 = .ok (.iload_n 1, 1) := by decide +kernel
theorem dX11_want_19 : decode cX11_want 19 = .ok (.iaload, 1) := by decide +kernel
theorem dX11_want_20 : decode cX11_want 20 = .ok (.ifCond .ne 20, 3) := by decide +kernel
theorem dX11_want_23 : decode cX11_want 23 = .ok (.aload_n 0, 1) := by decide +kernel
theorem dX11_want_24 : decode cX11_want 24 = .ok (.getfield 37, 3) := by decide +kernel
theorem dX11_want_27 : decode cX11_want 27 = .ok (.iload_n 1, 1) := by decide +kernel
theorem dX11_want_28 : decode cX11_want 28 = .ok (.iaload, 1) := by decide +kernel
theorem dX11_want_29 : decode cX11_want 29 = .ok (.ifCond .ge 11, 3) := by decide +kernel
theorem dX11_want_32 : decode cX11_want 32 = .ok (.aload_n 0, 1) := by decide +kernel
theorem dX11_want_33 : decode cX11_want 33 = .ok (.iload_n 1, 1) := by decide +kernel
theorem dX11_want_34 : decode cX11_want 34 = .ok (.invokevirtual 194, 3) := by decide +kernel
theorem dX11_want_37 : decode cX11_want 37 = .ok (.ifCond .eq 10, 3) := by decide +kernel
theorem dX11_want_40 : decode cX11_want 40 = .ok (.aload_n 0, 1) := by decide +kernel
theorem dX11_want_41 : decode cX11_want 41 = .ok (.bipush (-3), 2) := by decide +kernel
theorem dX11_want_43 : decode cX11_want 43 = .ok (.invokevirtual 152, 3) := by decide +kernel
theorem dX11_want_46 : decode cX11_want 46 = .ok (.ireturn, 1) := by decide +kernel
theorem dX11_want_47 : decode cX11_want 47 = .ok (.iload_n 2, 1) := by decide +kernel
theorem dX11_want_48 : decode cX11_want 48 = .ok (.iconst 1, 1) := by decide +kernel
theorem dX11_want_49 : decode cX11_want 49 = .ok (.sipush 999, 3) := by decide +kernel
theorem dX11_want_52 : decode cX11_want 52 = .ok (.invokestatic 148, 3) := by decide +kernel
theorem dX11_want_55 : decode cX11_want 55 = .ok (.istore_n 3, 1) := by decide +kernel
theorem dX11_want_56 : decode cX11_want 56 = .ok (.iload_n 3, 1) := by decide +kernel
theorem dX11_want_57 : decode cX11_want 57 = .ok (.ifCond .ne 15, 3) := by decide +kernel
theorem dX11_want_60 : decode cX11_want 60 = .ok (.aload_n 0, 1) := by decide +kernel
theorem dX11_want_61 : decode cX11_want 61 = .ok (.getfield 212, 3) := by decide +kernel
theorem dX11_want_64 : decode cX11_want 64 = .ok (.bipush 8, 2) := by decide +kernel
theorem dX11_want_66 : decode cX11_want 66 = .ok (.if_icmp .ne 6, 3) := by decide +kernel
theorem dX11_want_69 : decode cX11_want 69 = .ok (.bipush (-6), 2) := by decide +kernel
theorem dX11_want_71 : decode cX11_want 71 = .ok (.istore_n 3, 1) := by decide +kernel
theorem dX11_want_72 : decode cX11_want 72 = .ok (.iload_n 3, 1) := by decide +kernel
theorem dX11_want_73 : decode cX11_want 73 = .ok (.ifCond .eq 9, 3) := by decide +kernel
theorem dX11_want_76 : decode cX11_want 76 = .ok (.aload_n 0, 1) := by decide +kernel
theorem dX11_want_77 : decode cX11_want 77 = .ok (.iload_n 3, 1) := by decide +kernel
theorem dX11_want_78 : decode cX11_want 78 = .ok (.invokevirtual 152, 3) := by decide +kernel
theorem dX11_want_81 : decode cX11_want 81 = .ok (.ireturn, 1) := by decide +kernel
theorem dX11_want_82 : decode cX11_want 82 = .ok (.aload_n 0, 1) := by decide +kernel
theorem dX11_want_83 : decode cX11_want 83 = .ok (.getfield 67, 3) := by decide +kernel
theorem dX11_want_86 : decode cX11_want 86 = .ok (.aload_n 0, 1) := by decide +kernel
theorem dX11_want_87 : decode cX11_want 87 = .ok (.getfield 212, 3) := by decide +kernel
theorem dX11_want_90 : decode cX11_want 90 = .ok (.iload_n 1, 1) := by decide +kernel
theorem dX11_want_91 : decode cX11_want 91 = .ok (.iastore, 1) := by decide +kernel
theorem dX11_want_92 : decode cX11_want 92 = .ok (.aload_n 0, 1) := by decide +kernel
theorem dX11_want_93 : decode cX11_want 93 = .ok (.getfield 70, 3) := by decide +kernel
theorem dX11_want_96 : decode cX11_want 96 = .ok (.aload_n 0, 1) := by decide +kernel
theorem dX11_want_97 : decode cX11_want 97 = .ok (.getfield 212, 3) := by decide +kernel
theorem dX11_want_100 : decode cX11_want 100 = .ok (.iload_n 2, 1) := by decide +kernel
theorem dX11_want_101 : decode cX11_want 101 = .ok (.iastore, 1) := by decide +kernel
theorem dX11_want_102 : decode cX11_want 102 = .ok (.aload_n 0, 1) := by decide +kernel
theorem dX11_want_103 : decode cX11_want 103 = .ok (.dup, 1) := by decide +kernel
theorem dX11_want_104 : decode cX11_want 104 = .ok (.getfield 212, 3) := by decide +kernel
theorem dX11_want_107 : decode cX11_want 107 = .ok (.iconst 1, 1) := by decide +kernel
theorem dX11_want_108 : decode cX11_want 108 = .ok (.iadd, 1) := by decide +kernel
theorem dX11_want_109 : decode cX11_want 109 = .ok (.putfield 212, 3) := by decide +kernel
theorem dX11_want_112 : decode cX11_want 112 = .ok (.aload_n 0, 1) := by decide +kernel
theorem dX11_want_113 : decode cX11_want 113 = .ok (.getfield 212, 3) := by decide +kernel
theorem dX11_want_116 : decode cX11_want 116 = .ok (.ireturn, 1) := by decide +kernel
theorem dX11_finds_0 : decode cX11_finds 0 = .ok (.aload_n 0, 1) := by decide +kernel
theorem dX11_finds_1 : decode cX11_finds 1 = .ok (.aload_n 0, 1) := by decide +kernel
theorem dX11_finds_2 : decode cX11_finds 2 = .ok (.getfield 177, 3) := by decide +kernel
theorem dX11_finds_5 : decode cX11_finds 5 = .ok (.invokevirtual 187, 3) := by decide +kernel
theorem dX11_finds_8 : decode cX11_finds 8 = .ok (.sipush 4096, 3) := by decide +kernel
theorem dX11_finds_11 : decode cX11_finds 11 = .ok (.istore_n 1, 1) := by decide +kernel
theorem dX11_finds_12 : decode cX11_finds 12 = .ok (.iconst 0, 1) := by decide +kernel
theorem dX11_finds_13 : decode cX11_finds 13 = .ok (.istore_n 2, 1) := by decide +kernel
theorem dX11_finds_14 : decode cX11_finds 14 = .ok (.iload_n 2, 1) := by decide +kernel
theorem dX11_finds_15 : decode cX11_finds 15 = .ok (.iload_n 1, 1) := by decide +kernel
theorem dX11_finds_16 : decode cX11_finds 16 = .ok (.if_icmp .ge 23, 3) := by decide +kernel
theorem dX11_finds_19 : decode cX11_finds 19 = .ok (.aload_n 0, 1) := by decide +kernel
theorem dX11_finds_20 : decode cX11_finds 20 = .ok (.getfield 74, 3) := by decide +kernel
theorem dX11_finds_23 : decode cX11_finds 23 = .ok (.iload_n 1, 1) := by decide +kernel
theorem dX11_finds_24 : decode cX11_finds 24 = .ok (.aload_n 0, 1) := by decide +kernel
theorem dX11_finds_25 : decode cX11_finds 25 = .ok (.getfield 212, 3) := by decide +kernel
theorem dX11_finds_28 : decode cX11_finds 28 = .ok (.imul, 1) := by decide +kernel
theorem dX11_finds_29 : decode cX11_finds 29 = .ok (.iload_n 2, 1) := by decide +kernel
theorem dX11_finds_30 : decode cX11_finds 30 = .ok (.iadd, 1) := by decide +kernel
theorem dX11_finds_31 : decode cX11_finds 31 = .ok (.iconst 0, 1) := by decide +kernel
theorem dX11_finds_32 : decode cX11_finds 32 = .ok (.iastore, 1) := by decide +kernel
theorem dX11_finds_33 : decode cX11_finds 33 = .ok (.iinc 2 1, 3) := by decide +kernel
theorem dX11_finds_36 : decode cX11_finds 36 = .ok (.goto (-22), 3) := by decide +kernel
theorem dX11_finds_39 : decode cX11_finds 39 = .ok (.aload_n 0, 1) := by decide +kernel
theorem dX11_finds_40 : decode cX11_finds 40 = .ok (.getfield 212, 3) := by decide +kernel
theorem dX11_finds_43 : decode cX11_finds 43 = .ok (.iconst 1, 1) := by decide +kernel
theorem dX11_finds_44 : decode cX11_finds 44 = .ok (.isub, 1) := by decide +kernel
theorem dX11_finds_45 : decode cX11_finds 45 = .ok (.istore_n 2, 1) := by decide +kernel
theorem dX11_finds_46 : decode cX11_finds 46 = .ok (.iload_n 2, 1) := by decide +kernel
theorem dX11_finds_47 : decode cX11_finds 47 = .ok (.ifCond .lt 106, 3) := by decide +kernel
theorem dX11_finds_50 : decode cX11_finds 50 = .ok (.iconst 0, 1) := by decide +kernel
theorem dX11_finds_51 : decode cX11_finds 51 = .ok (.istore_n 3, 1) := by decide +kernel
theorem dX11_finds_52 : decode cX11_finds 52 = .ok (.iload_n 3, 1) := by decide +kernel
theorem dX11_finds_53 : decode cX11_finds 53 = .ok (.iload_n 1, 1) := by decide +kernel
theorem dX11_finds_54 : decode cX11_finds 54 = .ok (.if_icmp .ge 93, 3) := by decide +kernel
theorem dX11_finds_57 : decode cX11_finds 57 = .ok (.aload_n 0, 1) := by decide +kernel
theorem dX11_finds_58 : decode cX11_finds 58 = .ok (.getfield 74, 3) := by decide +kernel
theorem dX11_finds_61 : decode cX11_finds 61 = .ok (.iload_n 1, 1) := by decide +kernel
theorem dX11_finds_62 : decode cX11_finds 62 = .ok (.iload_n 2, 1) := by decide +kernel
theorem dX11_finds_63 : decode cX11_finds 63 = .ok (.iconst 1, 1) := by decide +kernel
theorem dX11_finds_64 : decode cX11_finds 64 = .ok (.iadd, 1) := by decide +kernel
theorem dX11_finds_65 : decode cX11_finds 65 = .ok (.imul, 1) := by decide +kernel
theorem dX11_finds_66 : decode cX11_finds 66 = .ok (.iload_n 3, 1) := by decide +kernel
theorem dX11_finds_67 : decode cX11_finds 67 = .ok (.iadd, 1) := by decide +kernel
theorem dX11_finds_68 : decode cX11_finds 68 = .ok (.iaload, 1) := by decide +kernel
theorem dX11_finds_69 : decode cX11_finds 69 = .ok (.istore 4, 2) := by decide +kernel
theorem dX11_finds_71 : decode cX11_finds 71 = .ok (.iconst 0, 1) := by decide +kernel
theorem dX11_finds_72 : decode cX11_finds 72 = .ok (.istore 5, 2) := by decide +kernel
theorem dX11_finds_74 : decode cX11_finds 74 = .ok (.iload 5, 2) := by decide +kernel
theorem dX11_finds_76 : decode cX11_finds 76 = .ok (.bipush 12, 2) := by decide +kernel
theorem dX11_finds_78 : decode cX11_finds 78 = .ok (.if_icmp .ge 51, 3) := by decide +kernel
theorem dX11_finds_81 : decode cX11_finds 81 = .ok (.aload_n 0, 1) := by decide +kernel
theorem dX11_finds_82 : decode cX11_finds 82 = .ok (.iload_n 2, 1) := by decide +kernel
theorem dX11_finds_83 : decode cX11_finds 83 = .ok (.iload 5, 2) := by decide +kernel
theorem dX11_finds_85 : decode cX11_finds 85 = .ok (.iload_n 3, 1) := by decide +kernel
theorem dX11_finds_86 : decode cX11_finds 86 = .ok (.invokevirtual 215, 3) := by decide +kernel
theorem dX11_finds_89 : decode cX11_finds 89 = .ok (.ifCond .eq 34, 3) := by decide +kernel
theorem dX11_finds_92 : decode cX11_finds 92 = .ok (.iload 4, 2) := by decide +kernel
theorem dX11_finds_94 : decode cX11_finds 94 = .ok (.aload_n 0, 1) := by decide +kernel
theorem dX11_finds_95 : decode cX11_finds 95 = .ok (.getfield 70, 3) := by decide +kernel
theorem dX11_finds_98 : decode cX11_finds 98 = .ok (.iload_n 2, 1) := by decide +kernel
theorem dX11_finds_99 : decode cX11_finds 99 = .ok (.iaload, 1) := by decide +kernel
theorem dX11_finds_100 : decode cX11_finds 100 = .ok (.aload_n 0, 1) := by decide +kernel
theorem dX11_finds_101 : decode cX11_finds 101 = .ok (.getfield 74, 3) := by decide +kernel
theorem dX11_finds_104 : decode cX11_finds 104 = .ok (.iload_n 1, 1) := by decide +kernel
theorem dX11_finds_105 : decode cX11_finds 105 = .ok (.iload_n 2, 1) := by decide +kernel
theorem dX11_finds_106 : decode cX11_finds 106 = .ok (.iconst 1, 1) := by decide +kernel
theorem dX11_finds_107 : decode cX11_finds 107 = .ok (.iadd, 1) := by decide +kernel
theorem dX11_finds_108 : decode cX11_finds 108 = .ok (.imul, 1) := by decide +kernel
theorem dX11_finds_109 : decode cX11_finds 109 = .ok (.iload_n 3, 1) := by decide +kernel
theorem dX11_finds_110 : decode cX11_finds 110 = .ok (.iconst 1, 1) := by decide +kernel
theorem dX11_finds_111 : decode cX11_finds 111 = .ok (.iload 5, 2) := by decide +kernel
theorem dX11_finds_113 : decode cX11_finds 113 = .ok (.ishl, 1) := by decide +kernel
theorem dX11_finds_114 : decode cX11_finds 114 = .ok (.ior, 1) := by decide +kernel
theorem dX11_finds_115 : decode cX11_finds 115 = .ok (.iadd, 1) := by decide +kernel
theorem dX11_finds_116 : decode cX11_finds 116 = .ok (.iaload, 1) := by decide +kernel
theorem dX11_finds_117 : decode cX11_finds 117 = .ok (.iadd, 1) := by decide +kernel
theorem dX11_finds_118 : decode cX11_finds 118 = .ok (.invokestatic 182, 3) := by decide +kernel
theorem dX11_finds_121 : decode cX11_finds 121 = .ok (.istore 4, 2) := by decide +kernel
theorem dX11_finds_123 : decode cX11_finds 123 = .ok (.iinc 5 1, 3) := by decide +kernel
theorem dX11_finds_126 : decode cX11_finds 126 = .ok (.goto (-52), 3) := by decide +kernel
theorem dX11_finds_129 : decode cX11_finds 129 = .ok (.aload_n 0, 1) := by decide +kernel
theorem dX11_finds_130 : decode cX11_finds 130 = .ok (.getfield 74, 3) := by decide +kernel
theorem dX11_finds_133 : decode cX11_finds 133 = .ok (.iload_n 1, 1) := by decide +kernel
theorem dX11_finds_134 : decode cX11_finds 134 = .ok (.iload_n 2, 1) := by decide +kernel
theorem dX11_finds_135 : decode cX11_finds 135 = .ok (.imul, 1) := by decide +kernel
theorem dX11_finds_136 : decode cX11_finds 136 = .ok (.iload_n 3, 1) := by decide +kernel
theorem dX11_finds_137 : decode cX11_finds 137 = .ok (.iadd, 1) := by decide +kernel
theorem dX11_finds_138 : decode cX11_finds 138 = .ok (.iload 4, 2) := by decide +kernel
theorem dX11_finds_140 : decode cX11_finds 140 = .ok (.iastore, 1) := by decide +kernel
theorem dX11_finds_141 : decode cX11_finds 141 = .ok (.iinc 3 1, 3) := by decide +kernel
theorem dX11_finds_144 : decode cX11_finds 144 = .ok (.goto (-92), 3) := by decide +kernel
theorem dX11_finds_147 : decode cX11_finds 147 = .ok (.iinc 2 (-1), 3) := by decide +kernel
theorem dX11_finds_150 : decode cX11_finds 150 = .ok (.goto (-104), 3) := by decide +kernel
theorem dX11_finds_153 : decode cX11_finds 153 = .ok (.iconst 0, 1) := by decide +kernel
theorem dX11_finds_154 : decode cX11_finds 154 = .ok (.istore_n 2, 1) := by decide +kernel
theorem dX11_finds_155 : decode cX11_finds 155 = .ok (.iconst 0, 1) := by decide +kernel
theorem dX11_finds_156 : decode cX11_finds 156 = .ok (.istore_n 3, 1) := by decide +kernel
theorem dX11_finds_157 : decode cX11_finds 157 = .ok (.iload_n 3, 1) := by decide +kernel
theorem dX11_finds_158 : decode cX11_finds 158 = .ok (.aload_n 0, 1) := by decide +kernel
theorem dX11_finds_159 : decode cX11_finds 159 = .ok (.getfield 212, 3) := by decide +kernel
theorem dX11_finds_162 : decode cX11_finds 162 = .ok (.if_icmp .ge 118, 3) := by decide +kernel
theorem dX11_finds_165 : decode cX11_finds 165 = .ok (.aload_n 0, 1) := by decide +kernel
theorem dX11_finds_166 : decode cX11_finds 166 = .ok (.getfield 77, 3) := by decide +kernel
theorem dX11_finds_169 : decode cX11_finds 169 = .ok (.iload_n 3, 1) := by decide +kernel
theorem dX11_finds_170 : decode cX11_finds 170 = .ok (.bipush (-9), 2) := by decide +kernel
theorem dX11_finds_172 : decode cX11_finds 172 = .ok (.iastore, 1) := by decide +kernel
theorem dX11_finds_173 : decode cX11_finds 173 = .ok (.iconst 0, 1) := by decide +kernel
theorem dX11_finds_174 : decode cX11_finds 174 = .ok (.istore 4, 2) := by decide +kernel
theorem dX11_finds_176 : decode cX11_finds 176 = .ok (.iload 4, 2) := by decide +kernel
theorem dX11_finds_178 : decode cX11_finds 178 = .ok (.bipush 12, 2) := by decide +kernel
theorem dX11_finds_180 : decode cX11_finds 180 = .ok (.if_icmp .ge 74, 3) := by decide +kernel
theorem dX11_finds_183 : decode cX11_finds 183 = .ok (.aload_n 0, 1) := by decide +kernel
theorem dX11_finds_184 : decode cX11_finds 184 = .ok (.getfield 77, 3) := by decide +kernel
theorem dX11_finds_187 : decode cX11_finds 187 = .ok (.iload_n 3, 1) := by decide +kernel
theorem dX11_finds_188 : decode cX11_finds 188 = .ok (.iaload, 1) := by decide +kernel
theorem dX11_finds_189 : decode cX11_finds 189 = .ok (.ifCond .ge 65, 3) := by decide +kernel
theorem dX11_finds_192 : decode cX11_finds 192 = .ok (.aload_n 0, 1) := by decide +kernel
theorem dX11_finds_193 : decode cX11_finds 193 = .ok (.iload_n 3, 1) := by decide +kernel
theorem dX11_finds_194 : decode cX11_finds 194 = .ok (.iload 4, 2) := by decide +kernel
theorem dX11_finds_196 : decode cX11_finds 196 = .ok (.iload_n 2, 1) := by decide +kernel
theorem dX11_finds_197 : decode cX11_finds 197 = .ok (.invokevirtual 215, 3) := by decide +kernel
theorem dX11_finds_200 : decode cX11_finds 200 = .ok (.ifCond .eq 48, 3) := by decide +kernel
theorem dX11_finds_203 : decode cX11_finds 203 = .ok (.aload_n 0, 1) := by decide +kernel
theorem dX11_finds_204 : decode cX11_finds 204 = .ok (.getfield 70, 3) := by decide +kernel
theorem dX11_finds_207 : decode cX11_finds 207 = .ok (.iload_n 3, 1) := by decide +kernel
theorem dX11_finds_208 : decode cX11_finds 208 = .ok (.iaload, 1) := by decide +kernel
theorem dX11_finds_209 : decode cX11_finds 209 = .ok (.aload_n 0, 1) := by decide +kernel
theorem dX11_finds_210 : decode cX11_finds 210 = .ok (.getfield 74, 3) := by decide +kernel
theorem dX11_finds_213 : decode cX11_finds 213 = .ok (.iload_n 1, 1) := by decide +kernel
theorem dX11_finds_214 : decode cX11_finds 214 = .ok (.iload_n 3, 1) := by decide +kernel
theorem dX11_finds_215 : decode cX11_finds 215 = .ok (.iconst 1, 1) := by decide +kernel
theorem dX11_finds_216 : decode cX11_finds 216 = .ok (.iadd, 1) := by decide +kernel
theorem dX11_finds_217 : decode cX11_finds 217 = .ok (.imul, 1) := by decide +kernel
theorem dX11_finds_218 : decode cX11_finds 218 = .ok (.iload_n 2, 1) := by decide +kernel
theorem dX11_finds_219 : decode cX11_finds 219 = .ok (.iconst 1, 1) := by decide +kernel
theorem dX11_finds_220 : decode cX11_finds 220 = .ok (.iload 4, 2) := by decide +kernel
theorem dX11_finds_222 : decode cX11_finds 222 = .ok (.ishl, 1) := by decide +kernel
theorem dX11_finds_223 : decode cX11_finds 223 = .ok (.ior, 1) := by decide +kernel
theorem dX11_finds_224 : decode cX11_finds 224 = .ok (.iadd, 1) := by decide +kernel
theorem dX11_finds_225 : decode cX11_finds 225 = .ok (.iaload, 1) := by decide +kernel
theorem dX11_finds_226 : decode cX11_finds 226 = .ok (.iadd, 1) := by decide +kernel
theorem dX11_finds_227 : decode cX11_finds 227 = .ok (.aload_n 0, 1) := by decide +kernel
theorem dX11_finds_228 : decode cX11_finds 228 = .ok (.getfield 74, 3) := by decide +kernel
theorem dX11_finds_231 : decode cX11_finds 231 = .ok (.iload_n 1, 1) := by decide +kernel
theorem dX11_finds_232 : decode cX11_finds 232 = .ok (.iload_n 3, 1) := by decide +kernel
theorem dX11_finds_233 : decode cX11_finds 233 = .ok (.imul, 1) := by decide +kernel
theorem dX11_finds_234 : decode cX11_finds 234 = .ok (.iload_n 2, 1) := by decide +kernel
theorem dX11_finds_235 : decode cX11_finds 235 = .ok (.iadd, 1) := by decide +kernel
theorem dX11_finds_236 : decode cX11_finds 236 = .ok (.iaload, 1) := by decide +kernel
theorem dX11_finds_237 : decode cX11_finds 237 = .ok (.if_icmp .ne 11, 3) := by decide +kernel
theorem dX11_finds_240 : decode cX11_finds 240 = .ok (.aload_n 0, 1) := by decide +kernel
theorem dX11_finds_241 : decode cX11_finds 241 = .ok (.getfield 77, 3) := by decide +kernel
theorem dX11_finds_244 : decode cX11_finds 244 = .ok (.iload_n 3, 1) := by decide +kernel
theorem dX11_finds_245 : decode cX11_finds 245 = .ok (.iload 4, 2) := by decide +kernel
theorem dX11_finds_247 : decode cX11_finds 247 = .ok (.iastore, 1) := by decide +kernel
theorem dX11_finds_248 : decode cX11_finds 248 = .ok (.iinc 4 1, 3) := by decide +kernel
theorem dX11_finds_251 : decode cX11_finds 251 = .ok (.goto (-75), 3) := by decide +kernel
theorem dX11_finds_254 : decode cX11_finds 254 = .ok (.aload_n 0, 1) := by decide +kernel
theorem dX11_finds_255 : decode cX11_finds 255 = .ok (.getfield 77, 3) := by decide +kernel
theorem dX11_finds_258 : decode cX11_finds 258 = .ok (.iload_n 3, 1) := by decide +kernel
theorem dX11_finds_259 : decode cX11_finds 259 = .ok (.iaload, 1) := by decide +kernel
theorem dX11_finds_260 : decode cX11_finds 260 = .ok (.ifCond .lt 14, 3) := by decide +kernel
theorem dX11_finds_263 : decode cX11_finds 263 = .ok (.iload_n 2, 1) := by decide +kernel
theorem dX11_finds_264 : decode cX11_finds 264 = .ok (.iconst 1, 1) := by decide +kernel
theorem dX11_finds_265 : decode cX11_finds 265 = .ok (.aload_n 0, 1) := by decide +kernel
theorem dX11_finds_266 : decode cX11_finds 266 = .ok (.getfield 77, 3) := by decide +kernel
theorem dX11_finds_269 : decode cX11_finds 269 = .ok (.iload_n 3, 1) := by decide +kernel
theorem dX11_finds_270 : decode cX11_finds 270 = .ok (.iaload, 1) := by decide +kernel
theorem dX11_finds_271 : decode cX11_finds 271 = .ok (.ishl, 1) := by decide +kernel
theorem dX11_finds_272 : decode cX11_finds 272 = .ok (.ior, 1) := by decide +kernel
theorem dX11_finds_273 : decode cX11_finds 273 = .ok (.istore_n 2, 1) := by decide +kernel
theorem dX11_finds_274 : decode cX11_finds 274 = .ok (.iinc 3 1, 3) := by decide +kernel
theorem dX11_finds_277 : decode cX11_finds 277 = .ok (.goto (-120), 3) := by decide +kernel
theorem dX11_finds_280 : decode cX11_finds 280 = .ok (.aload_n 0, 1) := by decide +kernel
theorem dX11_finds_281 : decode cX11_finds 281 = .ok (.getfield 74, 3) := by decide +kernel
theorem dX11_finds_284 : decode cX11_finds 284 = .ok (.iconst 0, 1) := by decide +kernel
theorem dX11_finds_285 : decode cX11_finds 285 = .ok (.iaload, 1) := by decide +kernel
theorem dX11_finds_286 : decode cX11_finds 286 = .ok (.ireturn, 1) := by decide +kernel
theorem dX11_mayLie_0 : decode cX11_mayLie 0 = .ok (.iload_n 3, 1) := by decide +kernel
theorem dX11_mayLie_1 : decode cX11_mayLie 1 = .ok (.iload_n 2, 1) := by decide +kernel
theorem dX11_mayLie_2 : decode cX11_mayLie 2 = .ok (.ishr, 1) := by decide +kernel
theorem dX11_mayLie_3 : decode cX11_mayLie 3 = .ok (.iconst 1, 1) := by decide +kernel
theorem dX11_mayLie_4 : decode cX11_mayLie 4 = .ok (.iand, 1) := by decide +kernel
theorem dX11_mayLie_5 : decode cX11_mayLie 5 = .ok (.ifCond .ne 30, 3) := by decide +kernel
theorem dX11_mayLie_8 : decode cX11_mayLie 8 = .ok (.aload_n 0, 1) := by decide +kernel
theorem dX11_mayLie_9 : decode cX11_mayLie 9 = .ok (.getfield 52, 3) := by decide +kernel
theorem dX11_mayLie_12 : decode cX11_mayLie 12 = .ok (.iload_n 2, 1) := by decide +kernel
theorem dX11_mayLie_13 : decode cX11_mayLie 13 = .ok (.iaload, 1) := by decide +kernel
theorem dX11_mayLie_14 : decode cX11_mayLie 14 = .ok (.ifCond .ge 21, 3) := by decide +kernel
theorem dX11_mayLie_17 : decode cX11_mayLie 17 = .ok (.aload_n 0, 1) := by decide +kernel
theorem dX11_mayLie_18 : decode cX11_mayLie 18 = .ok (.aload_n 0, 1) := by decide +kernel
theorem dX11_mayLie_19 : decode cX11_mayLie 19 = .ok (.getfield 67, 3) := by decide +kernel
theorem dX11_mayLie_22 : decode cX11_mayLie 22 = .ok (.iload_n 1, 1) := by decide +kernel
theorem dX11_mayLie_23 : decode cX11_mayLie 23 = .ok (.iaload, 1) := by decide +kernel
theorem dX11_mayLie_24 : decode cX11_mayLie 24 = .ok (.iload_n 2, 1) := by decide +kernel
theorem dX11_mayLie_25 : decode cX11_mayLie 25 = .ok (.invokevirtual 203, 3) := by decide +kernel
theorem dX11_mayLie_28 : decode cX11_mayLie 28 = .ok (.ifCond .eq 7, 3) := by decide +kernel
theorem dX11_mayLie_31 : decode cX11_mayLie 31 = .ok (.iconst 1, 1) := by decide +kernel
theorem dX11_mayLie_32 : decode cX11_mayLie 32 = .ok (.goto 4, 3) := by decide +kernel
theorem dX11_mayLie_35 : decode cX11_mayLie 35 = .ok (.iconst 0, 1) := by decide +kernel
theorem dX11_mayLie_36 : decode cX11_mayLie 36 = .ok (.ireturn, 1) := by decide +kernel
theorem dX11_best_0 : decode cX11_best 0 = .ok (.aload_n 0, 1) := by decide +kernel
theorem dX11_best_1 : decode cX11_best 1 = .ok (.invokevirtual 219, 3) := by decide +kernel
theorem dX11_best_4 : decode cX11_best 4 = .ok (.ireturn, 1) := by decide +kernel
theorem dX11_bestPlace_0 : decode cX11_bestPlace 0 = .ok (.iload_n 1, 1) := by decide +kernel
theorem dX11_bestPlace_1 : decode cX11_bestPlace 1 = .ok (.aload_n 0, 1) := by decide +kernel
theorem dX11_bestPlace_2 : decode cX11_bestPlace 2 = .ok (.getfield 212, 3) := by decide +kernel
theorem dX11_bestPlace_5 : decode cX11_bestPlace 5 = .ok (.invokestatic 144, 3) := by decide +kernel
theorem dX11_bestPlace_8 : decode cX11_bestPlace 8 = .ok (.ifCond .ne 9, 3) := by decide +kernel
theorem dX11_bestPlace_11 : decode cX11_bestPlace 11 = .ok (.aload_n 0, 1) := by decide +kernel
theorem dX11_bestPlace_12 : decode cX11_bestPlace 12 = .ok (.iconst (-1), 1) := by decide +kernel
theorem dX11_bestPlace_13 : decode cX11_bestPlace 13 = .ok (.invokevirtual 152, 3) := by decide +kernel
theorem dX11_bestPlace_16 : decode cX11_bestPlace 16 = .ok (.ireturn, 1) := by decide +kernel
theorem dX11_bestPlace_17 : decode cX11_bestPlace 17 = .ok (.aload_n 0, 1) := by decide +kernel
theorem dX11_bestPlace_18 : decode cX11_bestPlace 18 = .ok (.invokevirtual 219, 3) := by decide +kernel
theorem dX11_bestPlace_21 : decode cX11_bestPlace 21 = .ok (.istore_n 2, 1) := by decide +kernel
theorem dX11_bestPlace_22 : decode cX11_bestPlace 22 = .ok (.aload_n 0, 1) := by decide +kernel
theorem dX11_bestPlace_23 : decode cX11_bestPlace 23 = .ok (.getfield 77, 3) := by decide +kernel
theorem dX11_bestPlace_26 : decode cX11_bestPlace 26 = .ok (.iload_n 1, 1) := by decide +kernel
theorem dX11_bestPlace_27 : decode cX11_bestPlace 27 = .ok (.iaload, 1) := by decide +kernel
theorem dX11_bestPlace_28 : decode cX11_bestPlace 28 = .ok (.ireturn, 1) := by decide +kernel
theorem dX11_lay_0 : decode cX11_lay 0 = .ok (.aload_n 0, 1) := by decide +kernel
theorem dX11_lay_1 : decode cX11_lay 1 = .ok (.invokevirtual 219, 3) := by decide +kernel
theorem dX11_lay_4 : decode cX11_lay 4 = .ok (.istore_n 1, 1) := by decide +kernel
theorem dX11_lay_5 : decode cX11_lay 5 = .ok (.iconst 0, 1) := by decide +kernel
theorem dX11_lay_6 : decode cX11_lay 6 = .ok (.istore_n 2, 1) := by decide +kernel
theorem dX11_lay_7 : decode cX11_lay 7 = .ok (.iconst 0, 1) := by decide +kernel
theorem dX11_lay_8 : decode cX11_lay 8 = .ok (.istore_n 3, 1) := by decide +kernel
theorem dX11_lay_9 : decode cX11_lay 9 = .ok (.iload_n 3, 1) := by decide +kernel
theorem dX11_lay_10 : decode cX11_lay 10 = .ok (.aload_n 0, 1) := by decide +kernel
theorem dX11_lay_11 : decode cX11_lay 11 = .ok (.getfield 212, 3) := by decide +kernel
theorem dX11_lay_14 : decode cX11_lay 14 = .ok (.if_icmp .ge 58, 3) := by decide +kernel
theorem dX11_lay_17 : decode cX11_lay 17 = .ok (.aload_n 0, 1) := by decide +kernel
theorem dX11_lay_18 : decode cX11_lay 18 = .ok (.getfield 77, 3) := by decide +kernel
theorem dX11_lay_21 : decode cX11_lay 21 = .ok (.iload_n 3, 1) := by decide +kernel
theorem dX11_lay_22 : decode cX11_lay 22 = .ok (.iaload, 1) := by decide +kernel
theorem dX11_lay_23 : decode cX11_lay 23 = .ok (.ifCond .ge 6, 3) := by decide +kernel
theorem dX11_lay_26 : decode cX11_lay 26 = .ok (.goto 40, 3) := by decide +kernel
theorem dX11_lay_29 : decode cX11_lay 29 = .ok (.aload_n 0, 1) := by decide +kernel
theorem dX11_lay_30 : decode cX11_lay 30 = .ok (.getfield 52, 3) := by decide +kernel
theorem dX11_lay_33 : decode cX11_lay 33 = .ok (.aload_n 0, 1) := by decide +kernel
theorem dX11_lay_34 : decode cX11_lay 34 = .ok (.getfield 77, 3) := by decide +kernel
theorem dX11_lay_37 : decode cX11_lay 37 = .ok (.iload_n 3, 1) := by decide +kernel
theorem dX11_lay_38 : decode cX11_lay 38 = .ok (.iaload, 1) := by decide +kernel
theorem dX11_lay_39 : decode cX11_lay 39 = .ok (.aload_n 0, 1) := by decide +kernel
theorem dX11_lay_40 : decode cX11_lay 40 = .ok (.getfield 67, 3) := by decide +kernel
theorem dX11_lay_43 : decode cX11_lay 43 = .ok (.iload_n 3, 1) := by decide +kernel
theorem dX11_lay_44 : decode cX11_lay 44 = .ok (.iaload, 1) := by decide +kernel
theorem dX11_lay_45 : decode cX11_lay 45 = .ok (.iastore, 1) := by decide +kernel
theorem dX11_lay_46 : decode cX11_lay 46 = .ok (.aload_n 0, 1) := by decide +kernel
theorem dX11_lay_47 : decode cX11_lay 47 = .ok (.getfield 37, 3) := by decide +kernel
theorem dX11_lay_50 : decode cX11_lay 50 = .ok (.aload_n 0, 1) := by decide +kernel
theorem dX11_lay_51 : decode cX11_lay 51 = .ok (.getfield 67, 3) := by decide +kernel
theorem dX11_lay_54 : decode cX11_lay 54 = .ok (.iload_n 3, 1) := by decide +kernel
theorem dX11_lay_55 : decode cX11_lay 55 = .ok (.iaload, 1) := by decide +kernel
theorem dX11_lay_56 : decode cX11_lay 56 = .ok (.aload_n 0, 1) := by decide +kernel
theorem dX11_lay_57 : decode cX11_lay 57 = .ok (.getfield 77, 3) := by decide +kernel
theorem dX11_lay_60 : decode cX11_lay 60 = .ok (.iload_n 3, 1) := by decide +kernel
theorem dX11_lay_61 : decode cX11_lay 61 = .ok (.iaload, 1) := by decide +kernel
theorem dX11_lay_62 : decode cX11_lay 62 = .ok (.iastore, 1) := by decide +kernel
theorem dX11_lay_63 : decode cX11_lay 63 = .ok (.iinc 2 1, 3) := by decide +kernel
theorem dX11_lay_66 : decode cX11_lay 66 = .ok (.iinc 3 1, 3) := by decide +kernel
theorem dX11_lay_69 : decode cX11_lay 69 = .ok (.goto (-60), 3) := by decide +kernel
theorem dX11_lay_72 : decode cX11_lay 72 = .ok (.aload_n 0, 1) := by decide +kernel
theorem dX11_lay_73 : decode cX11_lay 73 = .ok (.iconst 0, 1) := by decide +kernel
theorem dX11_lay_74 : decode cX11_lay 74 = .ok (.putfield 212, 3) := by decide +kernel
theorem dX11_lay_77 : decode cX11_lay 77 = .ok (.iload_n 2, 1) := by decide +kernel
theorem dX11_lay_78 : decode cX11_lay 78 = .ok (.ireturn, 1) := by decide +kernel
theorem dX11_colour_0 : decode cX11_colour 0 = .ok (.iload_n 1, 1) := by decide +kernel
theorem dX11_colour_1 : decode cX11_colour 1 = .ok (.bipush 12, 2) := by decide +kernel
theorem dX11_colour_3 : decode cX11_colour 3 = .ok (.invokestatic 144, 3) := by decide +kernel
theorem dX11_colour_6 : decode cX11_colour 6 = .ok (.ifCond .ne 9, 3) := by decide +kernel
theorem dX11_colour_9 : decode cX11_colour 9 = .ok (.aload_n 0, 1) := by decide +kernel
theorem dX11_colour_10 : decode cX11_colour 10 = .ok (.iconst (-1), 1) := by decide +kernel
theorem dX11_colour_11 : decode cX11_colour 11 = .ok (.invokevirtual 152, 3) := by decide +kernel
theorem dX11_colour_14 : decode cX11_colour 14 = .ok (.ireturn, 1) := by decide +kernel
theorem dX11_colour_15 : decode cX11_colour 15 = .ok (.iload_n 2, 1) := by decide +kernel
theorem dX11_colour_16 : decode cX11_colour 16 = .ok (.ifCond .lt 8, 3) := by decide +kernel
theorem dX11_colour_19 : decode cX11_colour 19 = .ok (.iload_n 3, 1) := by decide +kernel
theorem dX11_colour_20 : decode cX11_colour 20 = .ok (.iload_n 2, 1) := by decide +kernel
theorem dX11_colour_21 : decode cX11_colour 21 = .ok (.if_icmp .ge 10, 3) := by decide +kernel
theorem dX11_colour_24 : decode cX11_colour 24 = .ok (.aload_n 0, 1) := by decide +kernel
theorem dX11_colour_25 : decode cX11_colour 25 = .ok (.bipush (-4), 2) := by decide +kernel
theorem dX11_colour_27 : decode cX11_colour 27 = .ok (.invokevirtual 152, 3) := by decide +kernel
theorem dX11_colour_30 : decode cX11_colour 30 = .ok (.ireturn, 1) := by decide +kernel
theorem dX11_colour_31 : decode cX11_colour 31 = .ok (.iload_n 3, 1) := by decide +kernel
theorem dX11_colour_32 : decode cX11_colour 32 = .ok (.sipush 1000, 3) := by decide +kernel
theorem dX11_colour_35 : decode cX11_colour 35 = .ok (.if_icmp .le 10, 3) := by decide +kernel
theorem dX11_colour_38 : decode cX11_colour 38 = .ok (.aload_n 0, 1) := by decide +kernel
theorem dX11_colour_39 : decode cX11_colour 39 = .ok (.bipush (-6), 2) := by decide +kernel
theorem dX11_colour_41 : decode cX11_colour 41 = .ok (.invokevirtual 152, 3) := by decide +kernel
theorem dX11_colour_44 : decode cX11_colour 44 = .ok (.ireturn, 1) := by decide +kernel
theorem dX11_colour_45 : decode cX11_colour 45 = .ok (.aload_n 0, 1) := by decide +kernel
theorem dX11_colour_46 : decode cX11_colour 46 = .ok (.getfield 80, 3) := by decide +kernel
theorem dX11_colour_49 : decode cX11_colour 49 = .ok (.iload_n 1, 1) := by decide +kernel
theorem dX11_colour_50 : decode cX11_colour 50 = .ok (.iload_n 2, 1) := by decide +kernel
theorem dX11_colour_51 : decode cX11_colour 51 = .ok (.iastore, 1) := by decide +kernel
theorem dX11_colour_52 : decode cX11_colour 52 = .ok (.aload_n 0, 1) := by decide +kernel
theorem dX11_colour_53 : decode cX11_colour 53 = .ok (.getfield 83, 3) := by decide +kernel
theorem dX11_colour_56 : decode cX11_colour 56 = .ok (.iload_n 1, 1) := by decide +kernel
theorem dX11_colour_57 : decode cX11_colour 57 = .ok (.iload_n 3, 1) := by decide +kernel
theorem dX11_colour_58 : decode cX11_colour 58 = .ok (.iastore, 1) := by decide +kernel
theorem dX11_colour_59 : decode cX11_colour 59 = .ok (.iconst 1, 1) := by decide +kernel
theorem dX11_colour_60 : decode cX11_colour 60 = .ok (.ireturn, 1) := by decide +kernel
theorem dX11_firesOf_0 : decode cX11_firesOf 0 = .ok (.iload_n 1, 1) := by decide +kernel
theorem dX11_firesOf_1 : decode cX11_firesOf 1 = .ok (.istore_n 2, 1) := by decide +kernel
theorem dX11_firesOf_2 : decode cX11_firesOf 2 = .ok (.iconst 0, 1) := by decide +kernel
theorem dX11_firesOf_3 : decode cX11_firesOf 3 = .ok (.istore_n 3, 1) := by decide +kernel
theorem dX11_firesOf_4 : decode cX11_firesOf 4 = .ok (.iload_n 2, 1) := by decide +kernel
theorem dX11_firesOf_5 : decode cX11_firesOf 5 = .ok (.ifCond .eq 107, 3) := by decide +kernel
theorem dX11_firesOf_8 : decode cX11_firesOf 8 = .ok (.iconst (-1), 1) := by decide +kernel
theorem dX11_firesOf_9 : decode cX11_firesOf 9 = .ok (.istore 4, 2) := by decide +kernel
theorem dX11_firesOf_11 : decode cX11_firesOf 11 = .ok (.iconst 0, 1) := by decide +kernel
theorem dX11_firesOf_12 : decode cX11_firesOf 12 = .ok (.istore 5, 2) := by decide +kernel
theorem dX11_firesOf_14 : decode cX11_firesOf 14 = .ok (.iload 5, 2) := by decide +kernel
theorem dX11_firesOf_16 : decode cX11_firesOf 16 = .ok (.bipush 12, 2) := by decide +kernel
theorem dX11_firesOf_18 : decode cX11_firesOf 18 = .ok (.if_icmp .ge 33, 3) := by decide +kernel
theorem dX11_firesOf_21 : decode cX11_firesOf 21 = .ok (.iload_n 2, 1) := by decide +kernel
theorem dX11_firesOf_22 : decode cX11_firesOf 22 = .ok (.iload 5, 2) := by decide +kernel
theorem dX11_firesOf_24 : decode cX11_firesOf 24 = .ok (.ishr, 1) := by decide +kernel
theorem dX11_firesOf_25 : decode cX11_firesOf 25 = .ok (.iconst 1, 1) := by decide +kernel
theorem dX11_firesOf_26 : decode cX11_firesOf 26 = .ok (.iand, 1) := by decide +kernel
theorem dX11_firesOf_27 : decode cX11_firesOf 27 = .ok (.iconst 1, 1) := by decide +kernel
theorem dX11_firesOf_28 : decode cX11_firesOf 28 = .ok (.if_icmp .ne 17, 3) := by decide +kernel
theorem dX11_firesOf_31 : decode cX11_firesOf 31 = .ok (.iload 4, 2) := by decide +kernel
theorem dX11_firesOf_33 : decode cX11_firesOf 33 = .ok (.aload_n 0, 1) := by decide +kernel
theorem dX11_firesOf_34 : decode cX11_firesOf 34 = .ok (.getfield 80, 3) := by decide +kernel
theorem dX11_firesOf_37 : decode cX11_firesOf 37 = .ok (.iload 5, 2) := by decide +kernel
theorem dX11_firesOf_39 : decode cX11_firesOf 39 = .ok (.iaload, 1) := by decide +kernel
theorem dX11_firesOf_40 : decode cX11_firesOf 40 = .ok (.invokestatic 182, 3) := by decide +kernel
theorem dX11_firesOf_43 : decode cX11_firesOf 43 = .ok (.istore 4, 2) := by decide +kernel
theorem dX11_firesOf_45 : decode cX11_firesOf 45 = .ok (.iinc 5 1, 3) := by decide +kernel
theorem dX11_firesOf_48 : decode cX11_firesOf 48 = .ok (.goto (-34), 3) := by decide +kernel
theorem dX11_firesOf_51 : decode cX11_firesOf 51 = .ok (.iconst 0, 1) := by decide +kernel
theorem dX11_firesOf_52 : decode cX11_firesOf 52 = .ok (.istore 5, 2) := by decide +kernel
theorem dX11_firesOf_54 : decode cX11_firesOf 54 = .ok (.iload 5, 2) := by decide +kernel
theorem dX11_firesOf_56 : decode cX11_firesOf 56 = .ok (.bipush 12, 2) := by decide +kernel
theorem dX11_firesOf_58 : decode cX11_firesOf 58 = .ok (.if_icmp .ge 40, 3) := by decide +kernel
theorem dX11_firesOf_61 : decode cX11_firesOf 61 = .ok (.iload_n 2, 1) := by decide +kernel
theorem dX11_firesOf_62 : decode cX11_firesOf 62 = .ok (.iload 5, 2) := by decide +kernel
theorem dX11_firesOf_64 : decode cX11_firesOf 64 = .ok (.ishr, 1) := by decide +kernel
theorem dX11_firesOf_65 : decode cX11_firesOf 65 = .ok (.iconst 1, 1) := by decide +kernel
theorem dX11_firesOf_66 : decode cX11_firesOf 66 = .ok (.iand, 1) := by decide +kernel
theorem dX11_firesOf_67 : decode cX11_firesOf 67 = .ok (.iconst 1, 1) := by decide +kernel
theorem dX11_firesOf_68 : decode cX11_firesOf 68 = .ok (.if_icmp .ne 24, 3) := by decide +kernel
theorem dX11_firesOf_71 : decode cX11_firesOf 71 = .ok (.aload_n 0, 1) := by decide +kernel
theorem dX11_firesOf_72 : decode cX11_firesOf 72 = .ok (.getfield 83, 3) := by decide +kernel
theorem dX11_firesOf_75 : decode cX11_firesOf 75 = .ok (.iload 5, 2) := by decide +kernel
theorem dX11_firesOf_77 : decode cX11_firesOf 77 = .ok (.iaload, 1) := by decide +kernel
theorem dX11_firesOf_78 : decode cX11_firesOf 78 = .ok (.iload 4, 2) := by decide +kernel
theorem dX11_firesOf_80 : decode cX11_firesOf 80 = .ok (.if_icmp .lt 12, 3) := by decide +kernel
theorem dX11_firesOf_83 : decode cX11_firesOf 83 = .ok (.iload_n 2, 1) := by decide +kernel
theorem dX11_firesOf_84 : decode cX11_firesOf 84 = .ok (.iconst 1, 1) := by decide +kernel
theorem dX11_firesOf_85 : decode cX11_firesOf 85 = .ok (.iload 5, 2) := by decide +kernel
theorem dX11_firesOf_87 : decode cX11_firesOf 87 = .ok (.ishl, 1) := by decide +kernel
theorem dX11_firesOf_88 : decode cX11_firesOf 88 = .ok (.iconst (-1), 1) := by decide +kernel
theorem dX11_firesOf_89 : decode cX11_firesOf 89 = .ok (.ixor, 1) := by decide +kernel
theorem dX11_firesOf_90 : decode cX11_firesOf 90 = .ok (.iand, 1) := by decide +kernel
theorem dX11_firesOf_91 : decode cX11_firesOf 91 = .ok (.istore_n 2, 1) := by decide +kernel
theorem dX11_firesOf_92 : decode cX11_firesOf 92 = .ok (.iinc 5 1, 3) := by decide +kernel
theorem dX11_firesOf_95 : decode cX11_firesOf 95 = .ok (.goto (-41), 3) := by decide +kernel
theorem dX11_firesOf_98 : decode cX11_firesOf 98 = .ok (.aload_n 0, 1) := by decide +kernel
theorem dX11_firesOf_99 : decode cX11_firesOf 99 = .ok (.getfield 86, 3) := by decide +kernel
theorem dX11_firesOf_102 : decode cX11_firesOf 102 = .ok (.iload_n 3, 1) := by decide +kernel
theorem dX11_firesOf_103 : decode cX11_firesOf 103 = .ok (.iload 4, 2) := by decide +kernel
theorem dX11_firesOf_105 : decode cX11_firesOf 105 = .ok (.iastore, 1) := by decide +kernel
theorem dX11_firesOf_106 : decode cX11_firesOf 106 = .ok (.iinc 3 1, 3) := by decide +kernel
theorem dX11_firesOf_109 : decode cX11_firesOf 109 = .ok (.goto (-105), 3) := by decide +kernel
theorem dX11_firesOf_112 : decode cX11_firesOf 112 = .ok (.iload_n 3, 1) := by decide +kernel
theorem dX11_firesOf_113 : decode cX11_firesOf 113 = .ok (.ireturn, 1) := by decide +kernel
theorem dX11_fires_0 : decode cX11_fires 0 = .ok (.iload_n 1, 1) := by decide +kernel
theorem dX11_fires_1 : decode cX11_fires 1 = .ok (.ifCond .lt 10, 3) := by decide +kernel
theorem dX11_fires_4 : decode cX11_fires 4 = .ok (.iload_n 1, 1) := by decide +kernel
theorem dX11_fires_5 : decode cX11_fires 5 = .ok (.sipush 4096, 3) := by decide +kernel
theorem dX11_fires_8 : decode cX11_fires 8 = .ok (.if_icmp .lt 11, 3) := by decide +kernel
theorem dX11_fires_11 : decode cX11_fires 11 = .ok (.aload_n 0, 1) := by decide +kernel
theorem dX11_fires_12 : decode cX11_fires 12 = .ok (.iconst (-1), 1) := by decide +kernel
theorem dX11_fires_13 : decode cX11_fires 13 = .ok (.invokevirtual 152, 3) := by decide +kernel
theorem dX11_fires_16 : decode cX11_fires 16 = .ok (.goto 8, 3) := by decide +kernel
theorem dX11_fires_19 : decode cX11_fires 19 = .ok (.aload_n 0, 1) := by decide +kernel
theorem dX11_fires_20 : decode cX11_fires 20 = .ok (.iload_n 1, 1) := by decide +kernel
theorem dX11_fires_21 : decode cX11_fires 21 = .ok (.invokevirtual 223, 3) := by decide +kernel
theorem dX11_fires_24 : decode cX11_fires 24 = .ok (.ireturn, 1) := by decide +kernel
theorem dX11_fireHeat_0 : decode cX11_fireHeat 0 = .ok (.iload_n 1, 1) := by decide +kernel
theorem dX11_fireHeat_1 : decode cX11_fireHeat 1 = .ok (.ifCond .lt 22, 3) := by decide +kernel
theorem dX11_fireHeat_4 : decode cX11_fireHeat 4 = .ok (.iload_n 1, 1) := by decide +kernel
theorem dX11_fireHeat_5 : decode cX11_fireHeat 5 = .ok (.sipush 4096, 3) := by decide +kernel
theorem dX11_fireHeat_8 : decode cX11_fireHeat 8 = .ok (.if_icmp .ge 15, 3) := by decide +kernel
theorem dX11_fireHeat_11 : decode cX11_fireHeat 11 = .ok (.iload_n 2, 1) := by decide +kernel
theorem dX11_fireHeat_12 : decode cX11_fireHeat 12 = .ok (.aload_n 0, 1) := by decide +kernel
theorem dX11_fireHeat_13 : decode cX11_fireHeat 13 = .ok (.iload_n 1, 1) := by decide +kernel
theorem dX11_fireHeat_14 : decode cX11_fireHeat 14 = .ok (.invokevirtual 223, 3) := by decide +kernel
theorem dX11_fireHeat_17 : decode cX11_fireHeat 17 = .ok (.invokestatic 144, 3) := by decide +kernel
theorem dX11_fireHeat_20 : decode cX11_fireHeat 20 = .ok (.ifCond .ne 9, 3) := by decide +kernel
theorem dX11_fireHeat_23 : decode cX11_fireHeat 23 = .ok (.aload_n 0, 1) := by decide +kernel
theorem dX11_fireHeat_24 : decode cX11_fireHeat 24 = .ok (.iconst (-1), 1) := by decide +kernel
theorem dX11_fireHeat_25 : decode cX11_fireHeat 25 = .ok (.invokevirtual 152, 3) := by decide +kernel
theorem dX11_fireHeat_28 : decode cX11_fireHeat 28 = .ok (.ireturn, 1) := by decide +kernel
theorem dX11_fireHeat_29 : decode cX11_fireHeat 29 = .ok (.aload_n 0, 1) := by decide +kernel
theorem dX11_fireHeat_30 : decode cX11_fireHeat 30 = .ok (.getfield 86, 3) := by decide +kernel
theorem dX11_fireHeat_33 : decode cX11_fireHeat 33 = .ok (.iload_n 2, 1) := by decide +kernel
theorem dX11_fireHeat_34 : decode cX11_fireHeat 34 = .ok (.iaload, 1) := by decide +kernel
theorem dX11_fireHeat_35 : decode cX11_fireHeat 35 = .ok (.ireturn, 1) := by decide +kernel
theorem dX11_skill_0 : decode cX11_skill 0 = .ok (.iload_n 1, 1) := by decide +kernel
theorem dX11_skill_1 : decode cX11_skill 1 = .ok (.iconst 3, 1) := by decide +kernel
theorem dX11_skill_2 : decode cX11_skill 2 = .ok (.invokestatic 144, 3) := by decide +kernel
theorem dX11_skill_5 : decode cX11_skill 5 = .ok (.ifCond .eq 13, 3) := by decide +kernel
theorem dX11_skill_8 : decode cX11_skill 8 = .ok (.iload_n 2, 1) := by decide +kernel
theorem dX11_skill_9 : decode cX11_skill 9 = .ok (.iconst 1, 1) := by decide +kernel
theorem dX11_skill_10 : decode cX11_skill 10 = .ok (.bipush 20, 2) := by decide +kernel
theorem dX11_skill_12 : decode cX11_skill 12 = .ok (.invokestatic 148, 3) := by decide +kernel
theorem dX11_skill_15 : decode cX11_skill 15 = .ok (.goto 4, 3) := by decide +kernel
theorem dX11_skill_18 : decode cX11_skill 18 = .ok (.iconst (-1), 1) := by decide +kernel
theorem dX11_skill_19 : decode cX11_skill 19 = .ok (.istore_n 3, 1) := by decide +kernel
theorem dX11_skill_20 : decode cX11_skill 20 = .ok (.iload_n 3, 1) := by decide +kernel
theorem dX11_skill_21 : decode cX11_skill 21 = .ok (.ifCond .eq 9, 3) := by decide +kernel
theorem dX11_skill_24 : decode cX11_skill 24 = .ok (.aload_n 0, 1) := by decide +kernel
theorem dX11_skill_25 : decode cX11_skill 25 = .ok (.iload_n 3, 1) := by decide +kernel
theorem dX11_skill_26 : decode cX11_skill 26 = .ok (.invokevirtual 152, 3) := by decide +kernel
theorem dX11_skill_29 : decode cX11_skill 29 = .ok (.ireturn, 1) := by decide +kernel
theorem dX11_skill_30 : decode cX11_skill 30 = .ok (.aload_n 0, 1) := by decide +kernel
theorem dX11_skill_31 : decode cX11_skill 31 = .ok (.getfield 89, 3) := by decide +kernel
theorem dX11_skill_34 : decode cX11_skill 34 = .ok (.iload_n 1, 1) := by decide +kernel
theorem dX11_skill_35 : decode cX11_skill 35 = .ok (.iaload, 1) := by decide +kernel
theorem dX11_skill_36 : decode cX11_skill 36 = .ok (.istore 4, 2) := by decide +kernel
theorem dX11_skill_38 : decode cX11_skill 38 = .ok (.aload_n 0, 1) := by decide +kernel
theorem dX11_skill_39 : decode cX11_skill 39 = .ok (.getfield 89, 3) := by decide +kernel
theorem dX11_skill_42 : decode cX11_skill 42 = .ok (.iload_n 1, 1) := by decide +kernel
theorem dX11_skill_43 : decode cX11_skill 43 = .ok (.iload_n 2, 1) := by decide +kernel
theorem dX11_skill_44 : decode cX11_skill 44 = .ok (.iastore, 1) := by decide +kernel
theorem dX11_skill_45 : decode cX11_skill 45 = .ok (.iload 4, 2) := by decide +kernel
theorem dX11_skill_47 : decode cX11_skill 47 = .ok (.ireturn, 1) := by decide +kernel
theorem dX11_job_0 : decode cX11_job 0 = .ok (.iload_n 1, 1) := by decide +kernel
theorem dX11_job_1 : decode cX11_job 1 = .ok (.iconst 1, 1) := by decide +kernel
theorem dX11_job_2 : decode cX11_job 2 = .ok (.sipush 500, 3) := by decide +kernel
theorem dX11_job_5 : decode cX11_job 5 = .ok (.invokestatic 148, 3) := by decide +kernel
theorem dX11_job_8 : decode cX11_job 8 = .ok (.istore_n 2, 1) := by decide +kernel
theorem dX11_job_9 : decode cX11_job 9 = .ok (.iload_n 2, 1) := by decide +kernel
theorem dX11_job_10 : decode cX11_job 10 = .ok (.ifCond .ne 15, 3) := by decide +kernel
theorem dX11_job_13 : decode cX11_job 13 = .ok (.aload_n 0, 1) := by decide +kernel
theorem dX11_job_14 : decode cX11_job 14 = .ok (.getfield 226, 3) := by decide +kernel
theorem dX11_job_17 : decode cX11_job 17 = .ok (.bipush 8, 2) := by decide +kernel
theorem dX11_job_19 : decode cX11_job 19 = .ok (.if_icmp .ne 6, 3) := by decide +kernel
theorem dX11_job_22 : decode cX11_job 22 = .ok (.bipush (-6), 2) := by decide +kernel
theorem dX11_job_24 : decode cX11_job 24 = .ok (.istore_n 2, 1) := by decide +kernel
theorem dX11_job_25 : decode cX11_job 25 = .ok (.iload_n 2, 1) := by decide +kernel
theorem dX11_job_26 : decode cX11_job 26 = .ok (.ifCond .eq 9, 3) := by decide +kernel
theorem dX11_job_29 : decode cX11_job 29 = .ok (.aload_n 0, 1) := by decide +kernel
theorem dX11_job_30 : decode cX11_job 30 = .ok (.iload_n 2, 1) := by decide +kernel
theorem dX11_job_31 : decode cX11_job 31 = .ok (.invokevirtual 152, 3) := by decide +kernel
theorem dX11_job_34 : decode cX11_job 34 = .ok (.ireturn, 1) := by decide +kernel
theorem dX11_job_35 : decode cX11_job 35 = .ok (.aload_n 0, 1) := by decide +kernel
theorem dX11_job_36 : decode cX11_job 36 = .ok (.getfield 92, 3) := by decide +kernel
theorem dX11_job_39 : decode cX11_job 39 = .ok (.aload_n 0, 1) := by decide +kernel
theorem dX11_job_40 : decode cX11_job 40 = .ok (.getfield 226, 3) := by decide +kernel
theorem dX11_job_43 : decode cX11_job 43 = .ok (.iload_n 1, 1) := by decide +kernel
theorem dX11_job_44 : decode cX11_job 44 = .ok (.iastore, 1) := by decide +kernel
theorem dX11_job_45 : decode cX11_job 45 = .ok (.aload_n 0, 1) := by decide +kernel
theorem dX11_job_46 : decode cX11_job 46 = .ok (.dup, 1) := by decide +kernel
theorem dX11_job_47 : decode cX11_job 47 = .ok (.getfield 226, 3) := by decide +kernel
theorem dX11_job_50 : decode cX11_job 50 = .ok (.iconst 1, 1) := by decide +kernel
theorem dX11_job_51 : decode cX11_job 51 = .ok (.iadd, 1) := by decide +kernel
theorem dX11_job_52 : decode cX11_job 52 = .ok (.putfield 226, 3) := by decide +kernel
theorem dX11_job_55 : decode cX11_job 55 = .ok (.aload_n 0, 1) := by decide +kernel
theorem dX11_job_56 : decode cX11_job 56 = .ok (.getfield 226, 3) := by decide +kernel
theorem dX11_job_59 : decode cX11_job 59 = .ok (.iconst 1, 1) := by decide +kernel
theorem dX11_job_60 : decode cX11_job 60 = .ok (.isub, 1) := by decide +kernel
theorem dX11_job_61 : decode cX11_job 61 = .ok (.ireturn, 1) := by decide +kernel
theorem dX11_leastOf_0 : decode cX11_leastOf 0 = .ok (.iconst 1, 1) := by decide +kernel
theorem dX11_leastOf_1 : decode cX11_leastOf 1 = .ok (.istore_n 1, 1) := by decide +kernel
theorem dX11_leastOf_2 : decode cX11_leastOf 2 = .ok (.iconst 0, 1) := by decide +kernel
theorem dX11_leastOf_3 : decode cX11_leastOf 3 = .ok (.istore_n 2, 1) := by decide +kernel
theorem dX11_leastOf_4 : decode cX11_leastOf 4 = .ok (.iload_n 2, 1) := by decide +kernel
theorem dX11_leastOf_5 : decode cX11_leastOf 5 = .ok (.aload_n 0, 1) := by decide +kernel
theorem dX11_leastOf_6 : decode cX11_leastOf 6 = .ok (.getfield 226, 3) := by decide +kernel
theorem dX11_leastOf_9 : decode cX11_leastOf 9 = .ok (.if_icmp .ge 13, 3) := by decide +kernel
theorem dX11_leastOf_12 : decode cX11_leastOf 12 = .ok (.iload_n 1, 1) := by decide +kernel
theorem dX11_leastOf_13 : decode cX11_leastOf 13 = .ok (.iconst 3, 1) := by decide +kernel
theorem dX11_leastOf_14 : decode cX11_leastOf 14 = .ok (.imul, 1) := by decide +kernel
theorem dX11_leastOf_15 : decode cX11_leastOf 15 = .ok (.istore_n 1, 1) := by decide +kernel
theorem dX11_leastOf_16 : decode cX11_leastOf 16 = .ok (.iinc 2 1, 3) := by decide +kernel
theorem dX11_leastOf_19 : decode cX11_leastOf 19 = .ok (.goto (-15), 3) := by decide +kernel
theorem dX11_leastOf_22 : decode cX11_leastOf 22 = .ok (.iconst (-1), 1) := by decide +kernel
theorem dX11_leastOf_23 : decode cX11_leastOf 23 = .ok (.istore_n 2, 1) := by decide +kernel
theorem dX11_leastOf_24 : decode cX11_leastOf 24 = .ok (.iconst 0, 1) := by decide +kernel
theorem dX11_leastOf_25 : decode cX11_leastOf 25 = .ok (.istore_n 3, 1) := by decide +kernel
theorem dX11_leastOf_26 : decode cX11_leastOf 26 = .ok (.iload_n 3, 1) := by decide +kernel
theorem dX11_leastOf_27 : decode cX11_leastOf 27 = .ok (.iload_n 1, 1) := by decide +kernel
theorem dX11_leastOf_28 : decode cX11_leastOf 28 = .ok (.if_icmp .ge 184, 3) := by decide +kernel
theorem dX11_leastOf_31 : decode cX11_leastOf 31 = .ok (.iconst 0, 1) := by decide +kernel
theorem dX11_leastOf_32 : decode cX11_leastOf 32 = .ok (.istore 4, 2) := by decide +kernel
theorem dX11_leastOf_34 : decode cX11_leastOf 34 = .ok (.iload 4, 2) := by decide +kernel
theorem dX11_leastOf_36 : decode cX11_leastOf 36 = .ok (.iconst 3, 1) := by decide +kernel
theorem dX11_leastOf_37 : decode cX11_leastOf 37 = .ok (.if_icmp .ge 17, 3) := by decide +kernel
theorem dX11_leastOf_40 : decode cX11_leastOf 40 = .ok (.aload_n 0, 1) := by decide +kernel
theorem dX11_leastOf_41 : decode cX11_leastOf 41 = .ok (.getfield 98, 3) := by decide +kernel
theorem dX11_leastOf_44 : decode cX11_leastOf 44 = .ok (.iload 4, 2) := by decide +kernel
theorem dX11_leastOf_46 : decode cX11_leastOf 46 = .ok (.iconst 0, 1) := by decide +kernel
theorem dX11_leastOf_47 : decode cX11_leastOf 47 = .ok (.iastore, 1) := by decide +kernel
theorem dX11_leastOf_48 : decode cX11_leastOf 48 = .ok (.iinc 4 1, 3) := by decide +kernel
theorem dX11_leastOf_51 : decode cX11_leastOf 51 = .ok (.goto (-17), 3) := by decide +kernel
theorem dX11_leastOf_54 : decode cX11_leastOf 54 = .ok (.iload_n 1, 1) := by decide +kernel
theorem dX11_leastOf_55 : decode cX11_leastOf 55 = .ok (.istore 4, 2) := by decide +kernel
theorem dX11_leastOf_57 : decode cX11_leastOf 57 = .ok (.iconst 0, 1) := by decide +kernel
theorem dX11_leastOf_58 : decode cX11_leastOf 58 = .ok (.istore 5, 2) := by decide +kernel
theorem dX11_leastOf_60 : decode cX11_leastOf 60 = .ok (.iload 5, 2) := by decide +kernel
theorem dX11_leastOf_62 : decode cX11_leastOf 62 = .ok (.aload_n 0, 1) := by decide +kernel
theorem dX11_leastOf_63 : decode cX11_leastOf 63 = .ok (.getfield 226, 3) := by decide +kernel
theorem dX11_leastOf_66 : decode cX11_leastOf 66 = .ok (.if_icmp .ge 58, 3) := by decide +kernel
theorem dX11_leastOf_69 : decode cX11_leastOf 69 = .ok (.iload 4, 2) := by decide +kernel
theorem dX11_leastOf_71 : decode cX11_leastOf 71 = .ok (.iconst 3, 1) := by decide +kernel
theorem dX11_leastOf_72 : decode cX11_leastOf 72 = .ok (.idiv, 1) := by decide +kernel
theorem dX11_leastOf_73 : decode cX11_leastOf 73 = .ok (.istore 4, 2) := by decide +kernel
theorem dX11_leastOf_75 : decode cX11_leastOf 75 = .ok (.iload_n 3, 1) := by decide +kernel
theorem dX11_leastOf_76 : decode cX11_leastOf 76 = .ok (.iload 4, 2) := by decide +kernel
theorem dX11_leastOf_78 : decode cX11_leastOf 78 = .ok (.idiv, 1) := by decide +kernel
theorem dX11_leastOf_79 : decode cX11_leastOf 79 = .ok (.iconst 3, 1) := by decide +kernel
theorem dX11_leastOf_80 : decode cX11_leastOf 80 = .ok (.irem, 1) := by decide +kernel
theorem dX11_leastOf_81 : decode cX11_leastOf 81 = .ok (.istore 6, 2) := by decide +kernel
theorem dX11_leastOf_83 : decode cX11_leastOf 83 = .ok (.aload_n 0, 1) := by decide +kernel
theorem dX11_leastOf_84 : decode cX11_leastOf 84 = .ok (.getfield 98, 3) := by decide +kernel
theorem dX11_leastOf_87 : decode cX11_leastOf 87 = .ok (.iload 6, 2) := by decide +kernel
theorem dX11_leastOf_89 : decode cX11_leastOf 89 = .ok (.dup2, 1) := by decide +kernel
theorem dX11_leastOf_90 : decode cX11_leastOf 90 = .ok (.iaload, 1) := by decide +kernel
theorem dX11_leastOf_91 : decode cX11_leastOf 91 = .ok (.aload_n 0, 1) := by decide +kernel
theorem dX11_leastOf_92 : decode cX11_leastOf 92 = .ok (.getfield 92, 3) := by decide +kernel
theorem dX11_leastOf_95 : decode cX11_leastOf 95 = .ok (.iload 5, 2) := by decide +kernel
theorem dX11_leastOf_97 : decode cX11_leastOf 97 = .ok (.iaload, 1) := by decide +kernel
theorem dX11_leastOf_98 : decode cX11_leastOf 98 = .ok (.aload_n 0, 1) := by decide +kernel
theorem dX11_leastOf_99 : decode cX11_leastOf 99 = .ok (.getfield 89, 3) := by decide +kernel
theorem dX11_leastOf_102 : decode cX11_leastOf 102 = .ok (.iload 6, 2) := by decide +kernel
theorem dX11_leastOf_104 : decode cX11_leastOf 104 = .ok (.iaload, 1) := by decide +kernel
theorem dX11_leastOf_105 : decode cX11_leastOf 105 = .ok (.iadd, 1) := by decide +kernel
theorem dX11_leastOf_106 : decode cX11_leastOf 106 = .ok (.iconst 1, 1) := by decide +kernel
theorem dX11_leastOf_107 : decode cX11_leastOf 107 = .ok (.isub, 1) := by decide +kernel
theorem dX11_leastOf_108 : decode cX11_leastOf 108 = .ok (.aload_n 0, 1) := by decide +kernel
theorem dX11_leastOf_109 : decode cX11_leastOf 109 = .ok (.getfield 89, 3) := by decide +kernel
theorem dX11_leastOf_112 : decode cX11_leastOf 112 = .ok (.iload 6, 2) := by decide +kernel
theorem dX11_leastOf_114 : decode cX11_leastOf 114 = .ok (.iaload, 1) := by decide +kernel
theorem dX11_leastOf_115 : decode cX11_leastOf 115 = .ok (.idiv, 1) := by decide +kernel
theorem dX11_leastOf_116 : decode cX11_leastOf 116 = .ok (.iadd, 1) := by decide +kernel
theorem dX11_leastOf_117 : decode cX11_leastOf 117 = .ok (.iastore, 1) := by decide +kernel
theorem dX11_leastOf_118 : decode cX11_leastOf 118 = .ok (.iinc 5 1, 3) := by decide +kernel
theorem dX11_leastOf_121 : decode cX11_leastOf 121 = .ok (.goto (-61), 3) := by decide +kernel
theorem dX11_leastOf_124 : decode cX11_leastOf 124 = .ok (.aload_n 0, 1) := by decide +kernel
theorem dX11_leastOf_125 : decode cX11_leastOf 125 = .ok (.getfield 98, 3) := by decide +kernel
theorem dX11_leastOf_128 : decode cX11_leastOf 128 = .ok (.iconst 0, 1) := by decide +kernel
theorem dX11_leastOf_129 : decode cX11_leastOf 129 = .ok (.iaload, 1) := by decide +kernel
theorem dX11_leastOf_130 : decode cX11_leastOf 130 = .ok (.aload_n 0, 1) := by decide +kernel
theorem dX11_leastOf_131 : decode cX11_leastOf 131 = .ok (.getfield 98, 3) := by decide +kernel
theorem dX11_leastOf_134 : decode cX11_leastOf 134 = .ok (.iconst 1, 1) := by decide +kernel
theorem dX11_leastOf_135 : decode cX11_leastOf 135 = .ok (.iaload, 1) := by decide +kernel
theorem dX11_leastOf_136 : decode cX11_leastOf 136 = .ok (.aload_n 0, 1) := by decide +kernel
theorem dX11_leastOf_137 : decode cX11_leastOf 137 = .ok (.getfield 98, 3) := by decide +kernel
theorem dX11_leastOf_140 : decode cX11_leastOf 140 = .ok (.iconst 2, 1) := by decide +kernel
theorem dX11_leastOf_141 : decode cX11_leastOf 141 = .ok (.iaload, 1) := by decide +kernel
theorem dX11_leastOf_142 : decode cX11_leastOf 142 = .ok (.invokestatic 182, 3) := by decide +kernel
theorem dX11_leastOf_145 : decode cX11_leastOf 145 = .ok (.invokestatic 182, 3) := by decide +kernel
theorem dX11_leastOf_148 : decode cX11_leastOf 148 = .ok (.istore 5, 2) := by decide +kernel
theorem dX11_leastOf_150 : decode cX11_leastOf 150 = .ok (.iload_n 2, 1) := by decide +kernel
theorem dX11_leastOf_151 : decode cX11_leastOf 151 = .ok (.ifCond .lt 12, 3) := by decide +kernel
theorem dX11_leastOf_154 : decode cX11_leastOf 154 = .ok (.iload 5, 2) := by decide +kernel
theorem dX11_leastOf_156 : decode cX11_leastOf 156 = .ok (.iload_n 2, 1) := by decide +kernel
theorem dX11_leastOf_157 : decode cX11_leastOf 157 = .ok (.if_icmp .lt 6, 3) := by decide +kernel
theorem dX11_leastOf_160 : decode cX11_leastOf 160 = .ok (.goto 46, 3) := by decide +kernel
theorem dX11_leastOf_163 : decode cX11_leastOf 163 = .ok (.iload 5, 2) := by decide +kernel
theorem dX11_leastOf_165 : decode cX11_leastOf 165 = .ok (.istore_n 2, 1) := by decide +kernel
theorem dX11_leastOf_166 : decode cX11_leastOf 166 = .ok (.iload_n 1, 1) := by decide +kernel
theorem dX11_leastOf_167 : decode cX11_leastOf 167 = .ok (.istore 4, 2) := by decide +kernel
theorem dX11_leastOf_169 : decode cX11_leastOf 169 = .ok (.iconst 0, 1) := by decide +kernel
theorem dX11_leastOf_170 : decode cX11_leastOf 170 = .ok (.istore 6, 2) := by decide +kernel
theorem dX11_leastOf_172 : decode cX11_leastOf 172 = .ok (.iload 6, 2) := by decide +kernel
theorem dX11_leastOf_174 : decode cX11_leastOf 174 = .ok (.aload_n 0, 1) := by decide +kernel
theorem dX11_leastOf_175 : decode cX11_leastOf 175 = .ok (.getfield 226, 3) := by decide +kernel
theorem dX11_leastOf_178 : decode cX11_leastOf 178 = .ok (.if_icmp .ge 28, 3) := by decide +kernel
theorem dX11_leastOf_181 : decode cX11_leastOf 181 = .ok (.iload 4, 2) := by decide +kernel
theorem dX11_leastOf_183 : decode cX11_leastOf 183 = .ok (.iconst 3, 1) := by decide +kernel
theorem dX11_leastOf_184 : decode cX11_leastOf 184 = .ok (.idiv, 1) := by decide +kernel
theorem dX11_leastOf_185 : decode cX11_leastOf 185 = .ok (.istore 4, 2) := by decide +kernel
theorem dX11_leastOf_187 : decode cX11_leastOf 187 = .ok (.aload_n 0, 1) := by decide +kernel
theorem dX11_leastOf_188 : decode cX11_leastOf 188 = .ok (.getfield 95, 3) := by decide +kernel
theorem dX11_leastOf_191 : decode cX11_leastOf 191 = .ok (.iload 6, 2) := by decide +kernel
theorem dX11_leastOf_193 : decode cX11_leastOf 193 = .ok (.iload_n 3, 1) := by decide +kernel
theorem dX11_leastOf_194 : decode cX11_leastOf 194 = .ok (.iload 4, 2) := by decide +kernel
theorem dX11_leastOf_196 : decode cX11_leastOf 196 = .ok (.idiv, 1) := by decide +kernel
theorem dX11_leastOf_197 : decode cX11_leastOf 197 = .ok (.iconst 3, 1) := by decide +kernel
theorem dX11_leastOf_198 : decode cX11_leastOf 198 = .ok (.irem, 1) := by decide +kernel
theorem dX11_leastOf_199 : decode cX11_leastOf 199 = .ok (.iastore, 1) := by decide +kernel
theorem dX11_leastOf_200 : decode cX11_leastOf 200 = .ok (.iinc 6 1, 3) := by decide +kernel
theorem dX11_leastOf_203 : decode cX11_leastOf 203 = .ok (.goto (-31), 3) := by decide +kernel
theorem dX11_leastOf_206 : decode cX11_leastOf 206 = .ok (.iinc 3 1, 3) := by decide +kernel
theorem dX11_leastOf_209 : decode cX11_leastOf 209 = .ok (.goto (-183), 3) := by decide +kernel
theorem dX11_leastOf_212 : decode cX11_leastOf 212 = .ok (.iload_n 2, 1) := by decide +kernel
theorem dX11_leastOf_213 : decode cX11_leastOf 213 = .ok (.ireturn, 1) := by decide +kernel
theorem dX11_least_0 : decode cX11_least 0 = .ok (.aload_n 0, 1) := by decide +kernel
theorem dX11_least_1 : decode cX11_least 1 = .ok (.invokevirtual 229, 3) := by decide +kernel
theorem dX11_least_4 : decode cX11_least 4 = .ok (.ireturn, 1) := by decide +kernel
theorem dX11_painter_0 : decode cX11_painter 0 = .ok (.iload_n 1, 1) := by decide +kernel
theorem dX11_painter_1 : decode cX11_painter 1 = .ok (.aload_n 0, 1) := by decide +kernel
theorem dX11_painter_2 : decode cX11_painter 2 = .ok (.getfield 226, 3) := by decide +kernel
theorem dX11_painter_5 : decode cX11_painter 5 = .ok (.invokestatic 144, 3) := by decide +kernel
theorem dX11_painter_8 : decode cX11_painter 8 = .ok (.ifCond .ne 6, 3) := by decide +kernel
theorem dX11_painter_11 : decode cX11_painter 11 = .ok (.bipush (-9), 2) := by decide +kernel
theorem dX11_painter_13 : decode cX11_painter 13 = .ok (.ireturn, 1) := by decide +kernel
theorem dX11_painter_14 : decode cX11_painter 14 = .ok (.aload_n 0, 1) := by decide +kernel
theorem dX11_painter_15 : decode cX11_painter 15 = .ok (.invokevirtual 229, 3) := by decide +kernel
theorem dX11_painter_18 : decode cX11_painter 18 = .ok (.istore_n 2, 1) := by decide +kernel
theorem dX11_painter_19 : decode cX11_painter 19 = .ok (.aload_n 0, 1) := by decide +kernel
theorem dX11_painter_20 : decode cX11_painter 20 = .ok (.getfield 95, 3) := by decide +kernel
theorem dX11_painter_23 : decode cX11_painter 23 = .ok (.iload_n 1, 1) := by decide +kernel
theorem dX11_painter_24 : decode cX11_painter 24 = .ok (.iaload, 1) := by decide +kernel
theorem dX11_painter_25 : decode cX11_painter 25 = .ok (.ireturn, 1) := by decide +kernel
theorem dX11_paint_0 : decode cX11_paint 0 = .ok (.aload_n 0, 1) := by decide +kernel
theorem dX11_paint_1 : decode cX11_paint 1 = .ok (.iload_n 1, 1) := by decide +kernel
theorem dX11_paint_2 : decode cX11_paint 2 = .ok (.invokevirtual 190, 3) := by decide +kernel
theorem dX11_paint_5 : decode cX11_paint 5 = .ok (.ifCond .ne 9, 3) := by decide +kernel
theorem dX11_paint_8 : decode cX11_paint 8 = .ok (.aload_n 0, 1) := by decide +kernel
theorem dX11_paint_9 : decode cX11_paint 9 = .ok (.iconst (-1), 1) := by decide +kernel
theorem dX11_paint_10 : decode cX11_paint 10 = .ok (.invokevirtual 152, 3) := by decide +kernel
theorem dX11_paint_13 : decode cX11_paint 13 = .ok (.ireturn, 1) := by decide +kernel
theorem dX11_paint_14 : decode cX11_paint 14 = .ok (.aload_n 0, 1) := by decide +kernel
theorem dX11_paint_15 : decode cX11_paint 15 = .ok (.getfield 34, 3) := by decide +kernel
theorem dX11_paint_18 : decode cX11_paint 18 = .ok (.iload_n 1, 1) := by decide +kernel
theorem dX11_paint_19 : decode cX11_paint 19 = .ok (.iaload, 1) := by decide +kernel
theorem dX11_paint_20 : decode cX11_paint 20 = .ok (.iconst 1, 1) := by decide +kernel
theorem dX11_paint_21 : decode cX11_paint 21 = .ok (.if_icmp .eq 10, 3) := by decide +kernel
theorem dX11_paint_24 : decode cX11_paint 24 = .ok (.aload_n 0, 1) := by decide +kernel
theorem dX11_paint_25 : decode cX11_paint 25 = .ok (.bipush (-3), 2) := by decide +kernel
theorem dX11_paint_27 : decode cX11_paint 27 = .ok (.invokevirtual 152, 3) := by decide +kernel
theorem dX11_paint_30 : decode cX11_paint 30 = .ok (.ireturn, 1) := by decide +kernel
theorem dX11_paint_31 : decode cX11_paint 31 = .ok (.aload_n 0, 1) := by decide +kernel
theorem dX11_paint_32 : decode cX11_paint 32 = .ok (.getfield 34, 3) := by decide +kernel
theorem dX11_paint_35 : decode cX11_paint 35 = .ok (.iload_n 1, 1) := by decide +kernel
theorem dX11_paint_36 : decode cX11_paint 36 = .ok (.iconst 2, 1) := by decide +kernel
theorem dX11_paint_37 : decode cX11_paint 37 = .ok (.iastore, 1) := by decide +kernel
theorem dX11_paint_38 : decode cX11_paint 38 = .ok (.iconst 1, 1) := by decide +kernel
theorem dX11_paint_39 : decode cX11_paint 39 = .ok (.ireturn, 1) := by decide +kernel
theorem dX11_wrongService_0 : decode cX11_wrongService 0 = .ok (.iload_n 1, 1) := by decide +kernel
theorem dX11_wrongService_1 : decode cX11_wrongService 1 = .ok (.bipush 10, 2) := by decide +kernel
theorem dX11_wrongService_3 : decode cX11_wrongService 3 = .ok (.invokestatic 144, 3) := by decide +kernel
theorem dX11_wrongService_6 : decode cX11_wrongService 6 = .ok (.ifCond .ne 5, 3) := by decide +kernel
theorem dX11_wrongService_9 : decode cX11_wrongService 9 = .ok (.iconst (-1), 1) := by decide +kernel
theorem dX11_wrongService_10 : decode cX11_wrongService 10 = .ok (.ireturn, 1) := by decide +kernel
theorem dX11_wrongService_11 : decode cX11_wrongService 11 = .ok (.iload_n 2, 1) := by decide +kernel
theorem dX11_wrongService_12 : decode cX11_wrongService 12 = .ok (.iconst 1, 1) := by decide +kernel
theorem dX11_wrongService_13 : decode cX11_wrongService 13 = .ok (.if_icmp .lt 7, 3) := by decide +kernel
theorem dX11_wrongService_16 : decode cX11_wrongService 16 = .ok (.iload_n 3, 1) := by decide +kernel
theorem dX11_wrongService_17 : decode cX11_wrongService 17 = .ok (.ifCond .ge 6, 3) := by decide +kernel
theorem dX11_wrongService_20 : decode cX11_wrongService 20 = .ok (.bipush (-4), 2) := by decide +kernel
theorem dX11_wrongService_22 : decode cX11_wrongService 22 = .ok (.ireturn, 1) := by decide +kernel
theorem dX11_wrongService_23 : decode cX11_wrongService 23 = .ok (.iload_n 2, 1) := by decide +kernel
theorem dX11_wrongService_24 : decode cX11_wrongService 24 = .ok (.bipush 12, 2) := by decide +kernel
theorem dX11_wrongService_26 : decode cX11_wrongService 26 = .ok (.if_icmp .gt 9, 3) := by decide +kernel
theorem dX11_wrongService_29 : decode cX11_wrongService 29 = .ok (.iload_n 3, 1) := by decide +kernel
theorem dX11_wrongService_30 : decode cX11_wrongService 30 = .ok (.bipush 100, 2) := by decide +kernel
theorem dX11_wrongService_32 : decode cX11_wrongService 32 = .ok (.if_icmp .le 8, 3) := by decide +kernel
theorem dX11_wrongService_35 : decode cX11_wrongService 35 = .ok (.bipush (-6), 2) := by decide +kernel
theorem dX11_wrongService_37 : decode cX11_wrongService 37 = .ok (.goto 4, 3) := by decide +kernel
theorem dX11_wrongService_40 : decode cX11_wrongService 40 = .ok (.iconst 0, 1) := by decide +kernel
theorem dX11_wrongService_41 : decode cX11_wrongService 41 = .ok (.ireturn, 1) := by decide +kernel
theorem dX11_isWhole_0 : decode cX11_isWhole 0 = .ok (.aload_n 0, 1) := by decide +kernel
theorem dX11_isWhole_1 : decode cX11_isWhole 1 = .ok (.getfield 28, 3) := by decide +kernel
theorem dX11_isWhole_4 : decode cX11_isWhole 4 = .ok (.iload_n 1, 1) := by decide +kernel
theorem dX11_isWhole_5 : decode cX11_isWhole 5 = .ok (.iaload, 1) := by decide +kernel
theorem dX11_isWhole_6 : decode cX11_isWhole 6 = .ok (.iload_n 2, 1) := by decide +kernel
theorem dX11_isWhole_7 : decode cX11_isWhole 7 = .ok (.if_icmp .ne 27, 3) := by decide +kernel
theorem dX11_isWhole_10 : decode cX11_isWhole 10 = .ok (.aload_n 0, 1) := by decide +kernel
theorem dX11_isWhole_11 : decode cX11_isWhole 11 = .ok (.getfield 34, 3) := by decide +kernel
theorem dX11_isWhole_14 : decode cX11_isWhole 14 = .ok (.iload_n 1, 1) := by decide +kernel
theorem dX11_isWhole_15 : decode cX11_isWhole 15 = .ok (.iaload, 1) := by decide +kernel
theorem dX11_isWhole_16 : decode cX11_isWhole 16 = .ok (.iconst 1, 1) := by decide +kernel
theorem dX11_isWhole_17 : decode cX11_isWhole 17 = .ok (.if_icmp .eq 13, 3) := by decide +kernel
theorem dX11_isWhole_20 : decode cX11_isWhole 20 = .ok (.aload_n 0, 1) := by decide +kernel
theorem dX11_isWhole_21 : decode cX11_isWhole 21 = .ok (.getfield 34, 3) := by decide +kernel
theorem dX11_isWhole_24 : decode cX11_isWhole 24 = .ok (.iload_n 1, 1) := by decide +kernel
theorem dX11_isWhole_25 : decode cX11_isWhole 25 = .ok (.iaload, 1) := by decide +kernel
theorem dX11_isWhole_26 : decode cX11_isWhole 26 = .ok (.iconst 2, 1) := by decide +kernel
theorem dX11_isWhole_27 : decode cX11_isWhole 27 = .ok (.if_icmp .ne 7, 3) := by decide +kernel
theorem dX11_isWhole_30 : decode cX11_isWhole 30 = .ok (.iconst 1, 1) := by decide +kernel
theorem dX11_isWhole_31 : decode cX11_isWhole 31 = .ok (.goto 4, 3) := by decide +kernel
theorem dX11_isWhole_34 : decode cX11_isWhole 34 = .ok (.iconst 0, 1) := by decide +kernel
theorem dX11_isWhole_35 : decode cX11_isWhole 35 = .ok (.ireturn, 1) := by decide +kernel
theorem dX11_matches_0 : decode cX11_matches 0 = .ok (.bipush (-9), 2) := by decide +kernel
theorem dX11_matches_2 : decode cX11_matches 2 = .ok (.istore 4, 2) := by decide +kernel
theorem dX11_matches_4 : decode cX11_matches 4 = .ok (.iconst 0, 1) := by decide +kernel
theorem dX11_matches_5 : decode cX11_matches 5 = .ok (.istore 5, 2) := by decide +kernel
theorem dX11_matches_7 : decode cX11_matches 7 = .ok (.iload 5, 2) := by decide +kernel
theorem dX11_matches_9 : decode cX11_matches 9 = .ok (.bipush 100, 2) := by decide +kernel
theorem dX11_matches_11 : decode cX11_matches 11 = .ok (.if_icmp .gt 220, 3) := by decide +kernel
theorem dX11_matches_14 : decode cX11_matches 14 = .ok (.iconst 0, 1) := by decide +kernel
theorem dX11_matches_15 : decode cX11_matches 15 = .ok (.istore 6, 2) := by decide +kernel
theorem dX11_matches_17 : decode cX11_matches 17 = .ok (.iconst 0, 1) := by decide +kernel
theorem dX11_matches_18 : decode cX11_matches 18 = .ok (.istore 7, 2) := by decide +kernel
theorem dX11_matches_20 : decode cX11_matches 20 = .ok (.iconst 0, 1) := by decide +kernel
theorem dX11_matches_21 : decode cX11_matches 21 = .ok (.istore 8, 2) := by decide +kernel
theorem dX11_matches_23 : decode cX11_matches 23 = .ok (.iconst 0, 1) := by decide +kernel
theorem dX11_matches_24 : decode cX11_matches 24 = .ok (.istore 9, 2) := by decide +kernel
theorem dX11_matches_26 : decode cX11_matches 26 = .ok (.iload 9, 2) := by decide +kernel
theorem dX11_matches_28 : decode cX11_matches 28 = .ok (.aload_n 0, 1) := by decide +kernel
theorem dX11_matches_29 : decode cX11_matches 29 = .ok (.getfield 174, 3) := by decide +kernel
theorem dX11_matches_32 : decode cX11_matches 32 = .ok (.if_icmp .ge 17, 3) := by decide +kernel
theorem dX11_matches_35 : decode cX11_matches 35 = .ok (.aload_n 0, 1) := by decide +kernel
theorem dX11_matches_36 : decode cX11_matches 36 = .ok (.getfield 105, 3) := by decide +kernel
theorem dX11_matches_39 : decode cX11_matches 39 = .ok (.iload 9, 2) := by decide +kernel
theorem dX11_matches_41 : decode cX11_matches 41 = .ok (.iconst 0, 1) := by decide +kernel
theorem dX11_matches_42 : decode cX11_matches 42 = .ok (.bastore, 1) := by decide +kernel
theorem dX11_matches_43 : decode cX11_matches 43 = .ok (.iinc 9 1, 3) := by decide +kernel
theorem dX11_matches_46 : decode cX11_matches 46 = .ok (.goto (-20), 3) := by decide +kernel
theorem dX11_matches_49 : decode cX11_matches 49 = .ok (.iload 5, 2) := by decide +kernel
theorem dX11_matches_51 : decode cX11_matches 51 = .ok (.istore 9, 2) := by decide +kernel
theorem dX11_matches_53 : decode cX11_matches 53 = .ok (.iload 9, 2) := by decide +kernel
theorem dX11_matches_55 : decode cX11_matches 55 = .ok (.iload 5, 2) := by decide +kernel
theorem dX11_matches_57 : decode cX11_matches 57 = .ok (.iload_n 3, 1) := by decide +kernel
theorem dX11_matches_58 : decode cX11_matches 58 = .ok (.isub, 1) := by decide +kernel
theorem dX11_matches_59 : decode cX11_matches 59 = .ok (.if_icmp .lt 104, 3) := by decide +kernel
theorem dX11_matches_62 : decode cX11_matches 62 = .ok (.iload 7, 2) := by decide +kernel
theorem dX11_matches_64 : decode cX11_matches 64 = .ok (.iload_n 2, 1) := by decide +kernel
theorem dX11_matches_65 : decode cX11_matches 65 = .ok (.if_icmp .ge 98, 3) := by decide +kernel
theorem dX11_matches_68 : decode cX11_matches 68 = .ok (.iconst 0, 1) := by decide +kernel
theorem dX11_matches_69 : decode cX11_matches 69 = .ok (.istore 10, 2) := by decide +kernel
theorem dX11_matches_71 : decode cX11_matches 71 = .ok (.iload 10, 2) := by decide +kernel
theorem dX11_matches_73 : decode cX11_matches 73 = .ok (.aload_n 0, 1) := by decide +kernel
theorem dX11_matches_74 : decode cX11_matches 74 = .ok (.getfield 174, 3) := by decide +kernel
theorem dX11_matches_77 : decode cX11_matches 77 = .ok (.if_icmp .ge 80, 3) := by decide +kernel
theorem dX11_matches_80 : decode cX11_matches 80 = .ok (.iload 7, 2) := by decide +kernel
theorem dX11_matches_82 : decode cX11_matches 82 = .ok (.iload_n 2, 1) := by decide +kernel
theorem dX11_matches_83 : decode cX11_matches 83 = .ok (.if_icmp .ge 74, 3) := by decide +kernel
theorem dX11_matches_86 : decode cX11_matches 86 = .ok (.aload_n 0, 1) := by decide +kernel
theorem dX11_matches_87 : decode cX11_matches 87 = .ok (.iload 10, 2) := by decide +kernel
theorem dX11_matches_89 : decode cX11_matches 89 = .ok (.iload_n 1, 1) := by decide +kernel
theorem dX11_matches_90 : decode cX11_matches 90 = .ok (.invokevirtual 232, 3) := by decide +kernel
theorem dX11_matches_93 : decode cX11_matches 93 = .ok (.ifCond .eq 58, 3) := by decide +kernel
theorem dX11_matches_96 : decode cX11_matches 96 = .ok (.aload_n 0, 1) := by decide +kernel
theorem dX11_matches_97 : decode cX11_matches 97 = .ok (.getfield 43, 3) := by decide +kernel
theorem dX11_matches_100 : decode cX11_matches 100 = .ok (.iload 10, 2) := by decide +kernel
theorem dX11_matches_102 : decode cX11_matches 102 = .ok (.iaload, 1) := by decide +kernel
theorem dX11_matches_103 : decode cX11_matches 103 = .ok (.iload 9, 2) := by decide +kernel
theorem dX11_matches_105 : decode cX11_matches 105 = .ok (.if_icmp .eq 6, 3) := by decide +kernel
theorem dX11_matches_108 : decode cX11_matches 108 = .ok (.goto 43, 3) := by decide +kernel
theorem dX11_matches_111 : decode cX11_matches 111 = .ok (.aload_n 0, 1) := by decide +kernel
theorem dX11_matches_112 : decode cX11_matches 112 = .ok (.getfield 105, 3) := by decide +kernel
theorem dX11_matches_115 : decode cX11_matches 115 = .ok (.iload 10, 2) := by decide +kernel
theorem dX11_matches_117 : decode cX11_matches 117 = .ok (.iconst 1, 1) := by decide +kernel
theorem dX11_matches_118 : decode cX11_matches 118 = .ok (.bastore, 1) := by decide +kernel
theorem dX11_matches_119 : decode cX11_matches 119 = .ok (.iload 6, 2) := by decide +kernel
theorem dX11_matches_121 : decode cX11_matches 121 = .ok (.bipush 100, 2) := by decide +kernel
theorem dX11_matches_123 : decode cX11_matches 123 = .ok (.iload 9, 2) := by decide +kernel
theorem dX11_matches_125 : decode cX11_matches 125 = .ok (.isub, 1) := by decide +kernel
theorem dX11_matches_126 : decode cX11_matches 126 = .ok (.iadd, 1) := by decide +kernel
theorem dX11_matches_127 : decode cX11_matches 127 = .ok (.istore 6, 2) := by decide +kernel
theorem dX11_matches_129 : decode cX11_matches 129 = .ok (.iinc 7 1, 3) := by decide +kernel
theorem dX11_matches_132 : decode cX11_matches 132 = .ok (.iload 8, 2) := by decide +kernel
theorem dX11_matches_134 : decode cX11_matches 134 = .ok (.ifCond .ne 10, 3) := by decide +kernel
theorem dX11_matches_137 : decode cX11_matches 137 = .ok (.iload 9, 2) := by decide +kernel
theorem dX11_matches_139 : decode cX11_matches 139 = .ok (.iload 5, 2) := by decide +kernel
theorem dX11_matches_141 : decode cX11_matches 141 = .ok (.if_icmp .ne 7, 3) := by decide +kernel
theorem dX11_matches_144 : decode cX11_matches 144 = .ok (.iconst 1, 1) := by decide +kernel
theorem dX11_matches_145 : decode cX11_matches 145 = .ok (.goto 4, 3) := by decide +kernel
theorem dX11_matches_148 : decode cX11_matches 148 = .ok (.iconst 0, 1) := by decide +kernel
theorem dX11_matches_149 : decode cX11_matches 149 = .ok (.istore 8, 2) := by decide +kernel
theorem dX11_matches_151 : decode cX11_matches 151 = .ok (.iinc 10 1, 3) := by decide +kernel
theorem dX11_matches_154 : decode cX11_matches 154 = .ok (.goto (-83), 3) := by decide +kernel
theorem dX11_matches_157 : decode cX11_matches 157 = .ok (.iinc 9 (-1), 3) := by decide +kernel
theorem dX11_matches_160 : decode cX11_matches 160 = .ok (.goto (-107), 3) := by decide +kernel
theorem dX11_matches_163 : decode cX11_matches 163 = .ok (.iload 7, 2) := by decide +kernel
theorem dX11_matches_165 : decode cX11_matches 165 = .ok (.iload_n 2, 1) := by decide +kernel
theorem dX11_matches_166 : decode cX11_matches 166 = .ok (.if_icmp .lt 59, 3) := by decide +kernel
theorem dX11_matches_169 : decode cX11_matches 169 = .ok (.iload 8, 2) := by decide +kernel
theorem dX11_matches_171 : decode cX11_matches 171 = .ok (.ifCond .eq 54, 3) := by decide +kernel
theorem dX11_matches_174 : decode cX11_matches 174 = .ok (.iload 4, 2) := by decide +kernel
theorem dX11_matches_176 : decode cX11_matches 176 = .ok (.ifCond .lt 13, 3) := by decide +kernel
theorem dX11_matches_179 : decode cX11_matches 179 = .ok (.iload 6, 2) := by decide +kernel
theorem dX11_matches_181 : decode cX11_matches 181 = .ok (.iload 4, 2) := by decide +kernel
theorem dX11_matches_183 : decode cX11_matches 183 = .ok (.if_icmp .lt 6, 3) := by decide +kernel
theorem dX11_matches_186 : decode cX11_matches 186 = .ok (.goto 39, 3) := by decide +kernel
theorem dX11_matches_189 : decode cX11_matches 189 = .ok (.iload 6, 2) := by decide +kernel
theorem dX11_matches_191 : decode cX11_matches 191 = .ok (.istore 4, 2) := by decide +kernel
theorem dX11_matches_193 : decode cX11_matches 193 = .ok (.iconst 0, 1) := by decide +kernel
theorem dX11_matches_194 : decode cX11_matches 194 = .ok (.istore 9, 2) := by decide +kernel
theorem dX11_matches_196 : decode cX11_matches 196 = .ok (.iload 9, 2) := by decide +kernel
theorem dX11_matches_198 : decode cX11_matches 198 = .ok (.aload_n 0, 1) := by decide +kernel
theorem dX11_matches_199 : decode cX11_matches 199 = .ok (.getfield 174, 3) := by decide +kernel
theorem dX11_matches_202 : decode cX11_matches 202 = .ok (.if_icmp .ge 23, 3) := by decide +kernel
theorem dX11_matches_205 : decode cX11_matches 205 = .ok (.aload_n 0, 1) := by decide +kernel
theorem dX11_matches_206 : decode cX11_matches 206 = .ok (.getfield 101, 3) := by decide +kernel
theorem dX11_matches_209 : decode cX11_matches 209 = .ok (.iload 9, 2) := by decide +kernel
theorem dX11_matches_211 : decode cX11_matches 211 = .ok (.aload_n 0, 1) := by decide +kernel
theorem dX11_matches_212 : decode cX11_matches 212 = .ok (.getfield 105, 3) := by decide +kernel
theorem dX11_matches_215 : decode cX11_matches 215 = .ok (.iload 9, 2) := by decide +kernel
theorem dX11_matches_217 : decode cX11_matches 217 = .ok (.baload, 1) := by decide +kernel
theorem dX11_matches_218 : decode cX11_matches 218 = .ok (.bastore, 1) := by decide +kernel
theorem dX11_matches_219 : decode cX11_matches 219 = .ok (.iinc 9 1, 3) := by decide +kernel
theorem dX11_matches_222 : decode cX11_matches 222 = .ok (.goto (-26), 3) := by decide +kernel
theorem dX11_matches_225 : decode cX11_matches 225 = .ok (.iinc 5 1, 3) := by decide +kernel
theorem dX11_matches_228 : decode cX11_matches 228 = .ok (.goto (-221), 3) := by decide +kernel
theorem dX11_matches_231 : decode cX11_matches 231 = .ok (.iload 4, 2) := by decide +kernel
theorem dX11_matches_233 : decode cX11_matches 233 = .ok (.ireturn, 1) := by decide +kernel
theorem dX11_service_0 : decode cX11_service 0 = .ok (.aload_n 0, 1) := by decide +kernel
theorem dX11_service_1 : decode cX11_service 1 = .ok (.iload_n 1, 1) := by decide +kernel
theorem dX11_service_2 : decode cX11_service 2 = .ok (.iload_n 2, 1) := by decide +kernel
theorem dX11_service_3 : decode cX11_service 3 = .ok (.iload_n 3, 1) := by decide +kernel
theorem dX11_service_4 : decode cX11_service 4 = .ok (.invokevirtual 235, 3) := by decide +kernel
theorem dX11_service_7 : decode cX11_service 7 = .ok (.istore 4, 2) := by decide +kernel
theorem dX11_service_9 : decode cX11_service 9 = .ok (.iload 4, 2) := by decide +kernel
theorem dX11_service_11 : decode cX11_service 11 = .ok (.ifCond .eq 12, 3) := by decide +kernel
theorem dX11_service_14 : decode cX11_service 14 = .ok (.aload_n 0, 1) := by decide +kernel
theorem dX11_service_15 : decode cX11_service 15 = .ok (.iload 4, 2) := by decide +kernel
theorem dX11_service_17 : decode cX11_service 17 = .ok (.invokevirtual 152, 3) := by decide +kernel
theorem dX11_service_20 : decode cX11_service 20 = .ok (.goto 10, 3) := by decide +kernel
theorem dX11_service_23 : decode cX11_service 23 = .ok (.aload_n 0, 1) := by decide +kernel
theorem dX11_service_24 : decode cX11_service 24 = .ok (.iload_n 1, 1) := by decide +kernel
theorem dX11_service_25 : decode cX11_service 25 = .ok (.iload_n 2, 1) := by decide +kernel
theorem dX11_service_26 : decode cX11_service 26 = .ok (.iload_n 3, 1) := by decide +kernel
theorem dX11_service_27 : decode cX11_service 27 = .ok (.invokevirtual 238, 3) := by decide +kernel
theorem dX11_service_30 : decode cX11_service 30 = .ok (.ireturn, 1) := by decide +kernel
theorem dX11_matched_0 : decode cX11_matched 0 = .ok (.aload_n 0, 1) := by decide +kernel
theorem dX11_matched_1 : decode cX11_matched 1 = .ok (.iload_n 1, 1) := by decide +kernel
theorem dX11_matched_2 : decode cX11_matched 2 = .ok (.iload_n 2, 1) := by decide +kernel
theorem dX11_matched_3 : decode cX11_matched 3 = .ok (.iload_n 3, 1) := by decide +kernel
theorem dX11_matched_4 : decode cX11_matched 4 = .ok (.invokevirtual 235, 3) := by decide +kernel
theorem dX11_matched_7 : decode cX11_matched 7 = .ok (.istore 5, 2) := by decide +kernel
theorem dX11_matched_9 : decode cX11_matched 9 = .ok (.iload 5, 2) := by decide +kernel
theorem dX11_matched_11 : decode cX11_matched 11 = .ok (.ifCond .eq 10, 3) := by decide +kernel
theorem dX11_matched_14 : decode cX11_matched 14 = .ok (.aload_n 0, 1) := by decide +kernel
theorem dX11_matched_15 : decode cX11_matched 15 = .ok (.iload 5, 2) := by decide +kernel
theorem dX11_matched_17 : decode cX11_matched 17 = .ok (.invokevirtual 152, 3) := by decide +kernel
theorem dX11_matched_20 : decode cX11_matched 20 = .ok (.ireturn, 1) := by decide +kernel
theorem dX11_matched_21 : decode cX11_matched 21 = .ok (.aload_n 0, 1) := by decide +kernel
theorem dX11_matched_22 : decode cX11_matched 22 = .ok (.iload_n 1, 1) := by decide +kernel
theorem dX11_matched_23 : decode cX11_matched 23 = .ok (.iload_n 2, 1) := by decide +kernel
theorem dX11_matched_24 : decode cX11_matched 24 = .ok (.iload_n 3, 1) := by decide +kernel
theorem dX11_matched_25 : decode cX11_matched 25 = .ok (.invokevirtual 238, 3) := by decide +kernel
theorem dX11_matched_28 : decode cX11_matched 28 = .ok (.ifCond .lt 8, 3) := by decide +kernel
theorem dX11_matched_31 : decode cX11_matched 31 = .ok (.iload 4, 2) := by decide +kernel
theorem dX11_matched_33 : decode cX11_matched 33 = .ok (.ifCond .ge 6, 3) := by decide +kernel
theorem dX11_matched_36 : decode cX11_matched 36 = .ok (.bipush (-9), 2) := by decide +kernel
theorem dX11_matched_38 : decode cX11_matched 38 = .ok (.ireturn, 1) := by decide +kernel
theorem dX11_matched_39 : decode cX11_matched 39 = .ok (.iconst 0, 1) := by decide +kernel
theorem dX11_matched_40 : decode cX11_matched 40 = .ok (.istore 6, 2) := by decide +kernel
theorem dX11_matched_42 : decode cX11_matched 42 = .ok (.iconst 0, 1) := by decide +kernel
theorem dX11_matched_43 : decode cX11_matched 43 = .ok (.istore 7, 2) := by decide +kernel
theorem dX11_matched_45 : decode cX11_matched 45 = .ok (.iload 7, 2) := by decide +kernel
theorem dX11_matched_47 : decode cX11_matched 47 = .ok (.aload_n 0, 1) := by decide +kernel
theorem dX11_matched_48 : decode cX11_matched 48 = .ok (.getfield 174, 3) := by decide +kernel
theorem dX11_matched_51 : decode cX11_matched 51 = .ok (.if_icmp .ge 35, 3) := by decide +kernel
theorem dX11_matched_54 : decode cX11_matched 54 = .ok (.aload_n 0, 1) := by decide +kernel
theorem dX11_matched_55 : decode cX11_matched 55 = .ok (.getfield 101, 3) := by decide +kernel
theorem dX11_matched_58 : decode cX11_matched 58 = .ok (.iload 7, 2) := by decide +kernel
theorem dX11_matched_60 : decode cX11_matched 60 = .ok (.baload, 1) := by decide +kernel
theorem dX11_matched_61 : decode cX11_matched 61 = .ok (.ifCond .ne 6, 3) := by decide +kernel
theorem dX11_matched_64 : decode cX11_matched 64 = .ok (.goto 16, 3) := by decide +kernel
theorem dX11_matched_67 : decode cX11_matched 67 = .ok (.iload 6, 2) := by decide +kernel
theorem dX11_matched_69 : decode cX11_matched 69 = .ok (.iload 4, 2) := by decide +kernel
theorem dX11_matched_71 : decode cX11_matched 71 = .ok (.if_icmp .ne 6, 3) := by decide +kernel
theorem dX11_matched_74 : decode cX11_matched 74 = .ok (.iload 7, 2) := by decide +kernel
theorem dX11_matched_76 : decode cX11_matched 76 = .ok (.ireturn, 1) := by decide +kernel
theorem dX11_matched_77 : decode cX11_matched 77 = .ok (.iinc 6 1, 3) := by decide +kernel
theorem dX11_matched_80 : decode cX11_matched 80 = .ok (.iinc 7 1, 3) := by decide +kernel
theorem dX11_matched_83 : decode cX11_matched 83 = .ok (.goto (-38), 3) := by decide +kernel
theorem dX11_matched_86 : decode cX11_matched 86 = .ok (.bipush (-9), 2) := by decide +kernel
theorem dX11_matched_88 : decode cX11_matched 88 = .ok (.ireturn, 1) := by decide +kernel
theorem dX11_sell_0 : decode cX11_sell 0 = .ok (.aload_n 0, 1) := by decide +kernel
theorem dX11_sell_1 : decode cX11_sell 1 = .ok (.iload_n 1, 1) := by decide +kernel
theorem dX11_sell_2 : decode cX11_sell 2 = .ok (.iload_n 2, 1) := by decide +kernel
theorem dX11_sell_3 : decode cX11_sell 3 = .ok (.iload_n 3, 1) := by decide +kernel
theorem dX11_sell_4 : decode cX11_sell 4 = .ok (.invokevirtual 235, 3) := by decide +kernel
theorem dX11_sell_7 : decode cX11_sell 7 = .ok (.istore 4, 2) := by decide +kernel
theorem dX11_sell_9 : decode cX11_sell 9 = .ok (.iload 4, 2) := by decide +kernel
theorem dX11_sell_11 : decode cX11_sell 11 = .ok (.ifCond .ne 17, 3) := by decide +kernel
theorem dX11_sell_14 : decode cX11_sell 14 = .ok (.aload_n 0, 1) := by decide +kernel
theorem dX11_sell_15 : decode cX11_sell 15 = .ok (.iload_n 1, 1) := by decide +kernel
theorem dX11_sell_16 : decode cX11_sell 16 = .ok (.iload_n 2, 1) := by decide +kernel
theorem dX11_sell_17 : decode cX11_sell 17 = .ok (.iload_n 3, 1) := by decide +kernel
theorem dX11_sell_18 : decode cX11_sell 18 = .ok (.invokevirtual 238, 3) := by decide +kernel
theorem dX11_sell_21 : decode cX11_sell 21 = .ok (.ifCond .ge 7, 3) := by decide +kernel
theorem dX11_sell_24 : decode cX11_sell 24 = .ok (.bipush (-3), 2) := by decide +kernel
theorem dX11_sell_26 : decode cX11_sell 26 = .ok (.istore 4, 2) := by decide +kernel
theorem dX11_sell_28 : decode cX11_sell 28 = .ok (.iload 4, 2) := by decide +kernel
theorem dX11_sell_30 : decode cX11_sell 30 = .ok (.ifCond .eq 10, 3) := by decide +kernel
theorem dX11_sell_33 : decode cX11_sell 33 = .ok (.aload_n 0, 1) := by decide +kernel
theorem dX11_sell_34 : decode cX11_sell 34 = .ok (.iload 4, 2) := by decide +kernel
theorem dX11_sell_36 : decode cX11_sell 36 = .ok (.invokevirtual 152, 3) := by decide +kernel
theorem dX11_sell_39 : decode cX11_sell 39 = .ok (.ireturn, 1) := by decide +kernel
theorem dX11_sell_40 : decode cX11_sell 40 = .ok (.iconst 0, 1) := by decide +kernel
theorem dX11_sell_41 : decode cX11_sell 41 = .ok (.istore 5, 2) := by decide +kernel
theorem dX11_sell_43 : decode cX11_sell 43 = .ok (.iload 5, 2) := by decide +kernel
theorem dX11_sell_45 : decode cX11_sell 45 = .ok (.aload_n 0, 1) := by decide +kernel
theorem dX11_sell_46 : decode cX11_sell 46 = .ok (.getfield 174, 3) := by decide +kernel
theorem dX11_sell_49 : decode cX11_sell 49 = .ok (.if_icmp .ge 27, 3) := by decide +kernel
theorem dX11_sell_52 : decode cX11_sell 52 = .ok (.aload_n 0, 1) := by decide +kernel
theorem dX11_sell_53 : decode cX11_sell 53 = .ok (.getfield 101, 3) := by decide +kernel
theorem dX11_sell_56 : decode cX11_sell 56 = .ok (.iload 5, 2) := by decide +kernel
theorem dX11_sell_58 : decode cX11_sell 58 = .ok (.baload, 1) := by decide +kernel
theorem dX11_sell_59 : decode cX11_sell 59 = .ok (.ifCond .eq 11, 3) := by decide +kernel
theorem dX11_sell_62 : decode cX11_sell 62 = .ok (.aload_n 0, 1) := by decide +kernel
theorem dX11_sell_63 : decode cX11_sell 63 = .ok (.getfield 34, 3) := by decide +kernel
theorem dX11_sell_66 : decode cX11_sell 66 = .ok (.iload 5, 2) := by decide +kernel
theorem dX11_sell_68 : decode cX11_sell 68 = .ok (.iconst 4, 1) := by decide +kernel
theorem dX11_sell_69 : decode cX11_sell 69 = .ok (.iastore, 1) := by decide +kernel
theorem dX11_sell_70 : decode cX11_sell 70 = .ok (.iinc 5 1, 3) := by decide +kernel
theorem dX11_sell_73 : decode cX11_sell 73 = .ok (.goto (-30), 3) := by decide +kernel
theorem dX11_sell_76 : decode cX11_sell 76 = .ok (.iload_n 2, 1) := by decide +kernel
theorem dX11_sell_77 : decode cX11_sell 77 = .ok (.ireturn, 1) := by decide +kernel
theorem dX11_begins_0 : decode cX11_begins 0 = .ok (.iconst 0, 1) := by decide +kernel
theorem dX11_begins_1 : decode cX11_begins 1 = .ok (.istore_n 1, 1) := by decide +kernel
theorem dX11_begins_2 : decode cX11_begins 2 = .ok (.iload_n 1, 1) := by decide +kernel
theorem dX11_begins_3 : decode cX11_begins 3 = .ok (.sipush 202, 3) := by decide +kernel
theorem dX11_begins_6 : decode cX11_begins 6 = .ok (.if_icmp .ge 16, 3) := by decide +kernel
theorem dX11_begins_9 : decode cX11_begins 9 = .ok (.aload_n 0, 1) := by decide +kernel
theorem dX11_begins_10 : decode cX11_begins 10 = .ok (.getfield 108, 3) := by decide +kernel
theorem dX11_begins_13 : decode cX11_begins 13 = .ok (.iload_n 1, 1) := by decide +kernel
theorem dX11_begins_14 : decode cX11_begins 14 = .ok (.iconst 0, 1) := by decide +kernel
theorem dX11_begins_15 : decode cX11_begins 15 = .ok (.iastore, 1) := by decide +kernel
theorem dX11_begins_16 : decode cX11_begins 16 = .ok (.iinc 1 1, 3) := by decide +kernel
theorem dX11_begins_19 : decode cX11_begins 19 = .ok (.goto (-17), 3) := by decide +kernel
theorem dX11_begins_22 : decode cX11_begins 22 = .ok (.aload_n 0, 1) := by decide +kernel
theorem dX11_begins_23 : decode cX11_begins 23 = .ok (.getfield 108, 3) := by decide +kernel
theorem dX11_begins_26 : decode cX11_begins 26 = .ok (.iconst 0, 1) := by decide +kernel
theorem dX11_begins_27 : decode cX11_begins 27 = .ok (.ldc 241, 2) := by decide +kernel
theorem dX11_begins_29 : decode cX11_begins 29 = .ok (.iastore, 1) := by decide +kernel
theorem dX11_begins_30 : decode cX11_begins 30 = .ok (.return_, 1) := by decide +kernel
theorem dX11_oneMore_0 : decode cX11_oneMore 0 = .ok (.sipush 201, 3) := by decide +kernel
theorem dX11_oneMore_3 : decode cX11_oneMore 3 = .ok (.istore_n 2, 1) := by decide +kernel
theorem dX11_oneMore_4 : decode cX11_oneMore 4 = .ok (.iload_n 2, 1) := by decide +kernel
theorem dX11_oneMore_5 : decode cX11_oneMore 5 = .ok (.ifCond .lt 57, 3) := by decide +kernel
theorem dX11_oneMore_8 : decode cX11_oneMore 8 = .ok (.aload_n 0, 1) := by decide +kernel
theorem dX11_oneMore_9 : decode cX11_oneMore 9 = .ok (.getfield 108, 3) := by decide +kernel
theorem dX11_oneMore_12 : decode cX11_oneMore 12 = .ok (.iload_n 2, 1) := by decide +kernel
theorem dX11_oneMore_13 : decode cX11_oneMore 13 = .ok (.iaload, 1) := by decide +kernel
theorem dX11_oneMore_14 : decode cX11_oneMore 14 = .ok (.i2l, 1) := by decide +kernel
theorem dX11_oneMore_15 : decode cX11_oneMore 15 = .ok (.sipush 1024, 3) := by decide +kernel
theorem dX11_oneMore_18 : decode cX11_oneMore 18 = .ok (.iload_n 1, 1) := by decide +kernel
theorem dX11_oneMore_19 : decode cX11_oneMore 19 = .ok (.isub, 1) := by decide +kernel
theorem dX11_oneMore_20 : decode cX11_oneMore 20 = .ok (.i2l, 1) := by decide +kernel
theorem dX11_oneMore_21 : decode cX11_oneMore 21 = .ok (.lmul, 1) := by decide +kernel
theorem dX11_oneMore_22 : decode cX11_oneMore 22 = .ok (.iload_n 2, 1) := by decide +kernel
theorem dX11_oneMore_23 : decode cX11_oneMore 23 = .ok (.ifCond .le 18, 3) := by decide +kernel
theorem dX11_oneMore_26 : decode cX11_oneMore 26 = .ok (.aload_n 0, 1) := by decide +kernel
theorem dX11_oneMore_27 : decode cX11_oneMore 27 = .ok (.getfield 108, 3) := by decide +kernel
theorem dX11_oneMore_30 : decode cX11_oneMore 30 = .ok (.iload_n 2, 1) := by decide +kernel
theorem dX11_oneMore_31 : decode cX11_oneMore 31 = .ok (.iconst 1, 1) := by decide +kernel
theorem dX11_oneMore_32 : decode cX11_oneMore 32 = .ok (.isub, 1) := by decide +kernel
theorem dX11_oneMore_33 : decode cX11_oneMore 33 = .ok (.iaload, 1) := by decide +kernel
theorem dX11_oneMore_34 : decode cX11_oneMore 34 = .ok (.i2l, 1) := by decide +kernel
theorem dX11_oneMore_35 : decode cX11_oneMore 35 = .ok (.iload_n 1, 1) := by decide +kernel
theorem dX11_oneMore_36 : decode cX11_oneMore 36 = .ok (.i2l, 1) := by decide +kernel
theorem dX11_oneMore_37 : decode cX11_oneMore 37 = .ok (.lmul, 1) := by decide +kernel
theorem dX11_oneMore_38 : decode cX11_oneMore 38 = .ok (.goto 4, 3) := by decide +kernel
theorem dX11_oneMore_41 : decode cX11_oneMore 41 = .ok (.lconst 0, 1) := by decide +kernel
theorem dX11_oneMore_42 : decode cX11_oneMore 42 = .ok (.ladd, 1) := by decide +kernel
theorem dX11_oneMore_43 : decode cX11_oneMore 43 = .ok (.lstore_n 3, 1) := by decide +kernel
theorem dX11_oneMore_44 : decode cX11_oneMore 44 = .ok (.aload_n 0, 1) := by decide +kernel
theorem dX11_oneMore_45 : decode cX11_oneMore 45 = .ok (.getfield 108, 3) := by decide +kernel
theorem dX11_oneMore_48 : decode cX11_oneMore 48 = .ok (.iload_n 2, 1) := by decide +kernel
theorem dX11_oneMore_49 : decode cX11_oneMore 49 = .ok (.lload_n 3, 1) := by decide +kernel
theorem dX11_oneMore_50 : decode cX11_oneMore 50 = .ok (.ldc2_w 242, 3) := by decide +kernel
theorem dX11_oneMore_53 : decode cX11_oneMore 53 = .ok (.ldiv, 1) := by decide +kernel
theorem dX11_oneMore_54 : decode cX11_oneMore 54 = .ok (.l2i, 1) := by decide +kernel
theorem dX11_oneMore_55 : decode cX11_oneMore 55 = .ok (.iastore, 1) := by decide +kernel
theorem dX11_oneMore_56 : decode cX11_oneMore 56 = .ok (.iinc 2 (-1), 3) := by decide +kernel
theorem dX11_oneMore_59 : decode cX11_oneMore 59 = .ok (.goto (-55), 3) := by decide +kernel
theorem dX11_oneMore_62 : decode cX11_oneMore 62 = .ok (.return_, 1) := by decide +kernel
theorem dX11_orMore_0 : decode cX11_orMore 0 = .ok (.iconst 0, 1) := by decide +kernel
theorem dX11_orMore_1 : decode cX11_orMore 1 = .ok (.istore_n 2, 1) := by decide +kernel
theorem dX11_orMore_2 : decode cX11_orMore 2 = .ok (.iload_n 1, 1) := by decide +kernel
theorem dX11_orMore_3 : decode cX11_orMore 3 = .ok (.istore_n 3, 1) := by decide +kernel
theorem dX11_orMore_4 : decode cX11_orMore 4 = .ok (.iload_n 3, 1) := by decide +kernel
theorem dX11_orMore_5 : decode cX11_orMore 5 = .ok (.sipush 202, 3) := by decide +kernel
theorem dX11_orMore_8 : decode cX11_orMore 8 = .ok (.if_icmp .ge 18, 3) := by decide +kernel
theorem dX11_orMore_11 : decode cX11_orMore 11 = .ok (.iload_n 2, 1) := by decide +kernel
theorem dX11_orMore_12 : decode cX11_orMore 12 = .ok (.aload_n 0, 1) := by decide +kernel
theorem dX11_orMore_13 : decode cX11_orMore 13 = .ok (.getfield 108, 3) := by decide +kernel
theorem dX11_orMore_16 : decode cX11_orMore 16 = .ok (.iload_n 3, 1) := by decide +kernel
theorem dX11_orMore_17 : decode cX11_orMore 17 = .ok (.iaload, 1) := by decide +kernel
theorem dX11_orMore_18 : decode cX11_orMore 18 = .ok (.iadd, 1) := by decide +kernel
theorem dX11_orMore_19 : decode cX11_orMore 19 = .ok (.istore_n 2, 1) := by decide +kernel
theorem dX11_orMore_20 : decode cX11_orMore 20 = .ok (.iinc 3 1, 3) := by decide +kernel
theorem dX11_orMore_23 : decode cX11_orMore 23 = .ok (.goto (-19), 3) := by decide +kernel
theorem dX11_orMore_26 : decode cX11_orMore 26 = .ok (.iload_n 2, 1) := by decide +kernel
theorem dX11_orMore_27 : decode cX11_orMore 27 = .ok (.ireturn, 1) := by decide +kernel
theorem dX11_chance_0 : decode cX11_chance 0 = .ok (.iload_n 1, 1) := by decide +kernel
theorem dX11_chance_1 : decode cX11_chance 1 = .ok (.ifCond .lt 11, 3) := by decide +kernel
theorem dX11_chance_4 : decode cX11_chance 4 = .ok (.iload_n 2, 1) := by decide +kernel
theorem dX11_chance_5 : decode cX11_chance 5 = .ok (.ifCond .lt 7, 3) := by decide +kernel
theorem dX11_chance_8 : decode cX11_chance 8 = .ok (.iload_n 3, 1) := by decide +kernel
theorem dX11_chance_9 : decode cX11_chance 9 = .ok (.ifCond .ge 10, 3) := by decide +kernel
theorem dX11_chance_12 : decode cX11_chance 12 = .ok (.aload_n 0, 1) := by decide +kernel
theorem dX11_chance_13 : decode cX11_chance 13 = .ok (.bipush (-4), 2) := by decide +kernel
theorem dX11_chance_15 : decode cX11_chance 15 = .ok (.invokevirtual 152, 3) := by decide +kernel
theorem dX11_chance_18 : decode cX11_chance 18 = .ok (.ireturn, 1) := by decide +kernel
theorem dX11_chance_19 : decode cX11_chance 19 = .ok (.iload_n 1, 1) := by decide +kernel
theorem dX11_chance_20 : decode cX11_chance 20 = .ok (.sipush 200, 3) := by decide +kernel
theorem dX11_chance_23 : decode cX11_chance 23 = .ok (.if_icmp .gt 17, 3) := by decide +kernel
theorem dX11_chance_26 : decode cX11_chance 26 = .ok (.iload_n 2, 1) := by decide +kernel
theorem dX11_chance_27 : decode cX11_chance 27 = .ok (.sipush 200, 3) := by decide +kernel
theorem dX11_chance_30 : decode cX11_chance 30 = .ok (.if_icmp .gt 10, 3) := by decide +kernel
theorem dX11_chance_33 : decode cX11_chance 33 = .ok (.iload_n 3, 1) := by decide +kernel
theorem dX11_chance_34 : decode cX11_chance 34 = .ok (.sipush 1024, 3) := by decide +kernel
theorem dX11_chance_37 : decode cX11_chance 37 = .ok (.if_icmp .le 10, 3) := by decide +kernel
theorem dX11_chance_40 : decode cX11_chance 40 = .ok (.aload_n 0, 1) := by decide +kernel
theorem dX11_chance_41 : decode cX11_chance 41 = .ok (.bipush (-6), 2) := by decide +kernel
theorem dX11_chance_43 : decode cX11_chance 43 = .ok (.invokevirtual 152, 3) := by decide +kernel
theorem dX11_chance_46 : decode cX11_chance 46 = .ok (.ireturn, 1) := by decide +kernel
theorem dX11_chance_47 : decode cX11_chance 47 = .ok (.aload_n 0, 1) := by decide +kernel
theorem dX11_chance_48 : decode cX11_chance 48 = .ok (.invokevirtual 244, 3) := by decide +kernel
theorem dX11_chance_51 : decode cX11_chance 51 = .ok (.iconst 0, 1) := by decide +kernel
theorem dX11_chance_52 : decode cX11_chance 52 = .ok (.istore 4, 2) := by decide +kernel
theorem dX11_chance_54 : decode cX11_chance 54 = .ok (.iload 4, 2) := by decide +kernel
theorem dX11_chance_56 : decode cX11_chance 56 = .ok (.iload_n 1, 1) := by decide +kernel
theorem dX11_chance_57 : decode cX11_chance 57 = .ok (.if_icmp .ge 14, 3) := by decide +kernel
theorem dX11_chance_60 : decode cX11_chance 60 = .ok (.aload_n 0, 1) := by decide +kernel
theorem dX11_chance_61 : decode cX11_chance 61 = .ok (.iload_n 3, 1) := by decide +kernel
theorem dX11_chance_62 : decode cX11_chance 62 = .ok (.invokevirtual 247, 3) := by decide +kernel
theorem dX11_chance_65 : decode cX11_chance 65 = .ok (.iinc 4 1, 3) := by decide +kernel
theorem dX11_chance_68 : decode cX11_chance 68 = .ok (.goto (-14), 3) := by decide +kernel
theorem dX11_chance_71 : decode cX11_chance 71 = .ok (.aload_n 0, 1) := by decide +kernel
theorem dX11_chance_72 : decode cX11_chance 72 = .ok (.iload_n 2, 1) := by decide +kernel
theorem dX11_chance_73 : decode cX11_chance 73 = .ok (.invokevirtual 250, 3) := by decide +kernel
theorem dX11_chance_76 : decode cX11_chance 76 = .ok (.ireturn, 1) := by decide +kernel
theorem dX11_make_0 : decode cX11_make 0 = .ok (.iload_n 1, 1) := by decide +kernel
theorem dX11_make_1 : decode cX11_make 1 = .ok (.ifCond .lt 11, 3) := by decide +kernel
theorem dX11_make_4 : decode cX11_make 4 = .ok (.iload_n 2, 1) := by decide +kernel
theorem dX11_make_5 : decode cX11_make 5 = .ok (.ifCond .lt 7, 3) := by decide +kernel
theorem dX11_make_8 : decode cX11_make 8 = .ok (.iload_n 3, 1) := by decide +kernel
theorem dX11_make_9 : decode cX11_make 9 = .ok (.ifCond .ge 10, 3) := by decide +kernel
theorem dX11_make_12 : decode cX11_make 12 = .ok (.aload_n 0, 1) := by decide +kernel
theorem dX11_make_13 : decode cX11_make 13 = .ok (.bipush (-4), 2) := by decide +kernel
theorem dX11_make_15 : decode cX11_make 15 = .ok (.invokevirtual 152, 3) := by decide +kernel
theorem dX11_make_18 : decode cX11_make 18 = .ok (.ireturn, 1) := by decide +kernel
theorem dX11_make_19 : decode cX11_make 19 = .ok (.iload_n 1, 1) := by decide +kernel
theorem dX11_make_20 : decode cX11_make 20 = .ok (.sipush 200, 3) := by decide +kernel
theorem dX11_make_23 : decode cX11_make 23 = .ok (.if_icmp .gt 16, 3) := by decide +kernel
theorem dX11_make_26 : decode cX11_make 26 = .ok (.iload_n 2, 1) := by decide +kernel
theorem dX11_make_27 : decode cX11_make 27 = .ok (.sipush 1024, 3) := by decide +kernel
theorem dX11_make_30 : decode cX11_make 30 = .ok (.if_icmp .gt 9, 3) := by decide +kernel
theorem dX11_make_33 : decode cX11_make 33 = .ok (.iload_n 3, 1) := by decide +kernel
theorem dX11_make_34 : decode cX11_make 34 = .ok (.ldc 241, 2) := by decide +kernel
theorem dX11_make_36 : decode cX11_make 36 = .ok (.if_icmp .le 10, 3) := by decide +kernel
theorem dX11_make_39 : decode cX11_make 39 = .ok (.aload_n 0, 1) := by decide +kernel
theorem dX11_make_40 : decode cX11_make 40 = .ok (.bipush (-6), 2) := by decide +kernel
theorem dX11_make_42 : decode cX11_make 42 = .ok (.invokevirtual 152, 3) := by decide +kernel
theorem dX11_make_45 : decode cX11_make 45 = .ok (.ireturn, 1) := by decide +kernel
theorem dX11_make_46 : decode cX11_make 46 = .ok (.aload_n 0, 1) := by decide +kernel
theorem dX11_make_47 : decode cX11_make 47 = .ok (.invokevirtual 244, 3) := by decide +kernel
theorem dX11_make_50 : decode cX11_make 50 = .ok (.iconst 0, 1) := by decide +kernel
theorem dX11_make_51 : decode cX11_make 51 = .ok (.istore 4, 2) := by decide +kernel
theorem dX11_make_53 : decode cX11_make 53 = .ok (.iload 4, 2) := by decide +kernel
theorem dX11_make_55 : decode cX11_make 55 = .ok (.sipush 200, 3) := by decide +kernel
theorem dX11_make_58 : decode cX11_make 58 = .ok (.if_icmp .gt 26, 3) := by decide +kernel
theorem dX11_make_61 : decode cX11_make 61 = .ok (.aload_n 0, 1) := by decide +kernel
theorem dX11_make_62 : decode cX11_make 62 = .ok (.iload_n 1, 1) := by decide +kernel
theorem dX11_make_63 : decode cX11_make 63 = .ok (.invokevirtual 250, 3) := by decide +kernel
theorem dX11_make_66 : decode cX11_make 66 = .ok (.iload_n 3, 1) := by decide +kernel
theorem dX11_make_67 : decode cX11_make 67 = .ok (.if_icmp .lt 6, 3) := by decide +kernel
theorem dX11_make_70 : decode cX11_make 70 = .ok (.iload 4, 2) := by decide +kernel
theorem dX11_make_72 : decode cX11_make 72 = .ok (.ireturn, 1) := by decide +kernel
theorem dX11_make_73 : decode cX11_make 73 = .ok (.aload_n 0, 1) := by decide +kernel
theorem dX11_make_74 : decode cX11_make 74 = .ok (.iload_n 2, 1) := by decide +kernel
theorem dX11_make_75 : decode cX11_make 75 = .ok (.invokevirtual 247, 3) := by decide +kernel
theorem dX11_make_78 : decode cX11_make 78 = .ok (.iinc 4 1, 3) := by decide +kernel
theorem dX11_make_81 : decode cX11_make 81 = .ok (.goto (-28), 3) := by decide +kernel
theorem dX11_make_84 : decode cX11_make 84 = .ok (.bipush (-9), 2) := by decide +kernel
theorem dX11_make_86 : decode cX11_make 86 = .ok (.ireturn, 1) := by decide +kernel
theorem dX11_see_0 : decode cX11_see 0 = .ok (.iload_n 1, 1) := by decide +kernel
theorem dX11_see_1 : decode cX11_see 1 = .ok (.bipush 16, 2) := by decide +kernel
theorem dX11_see_3 : decode cX11_see 3 = .ok (.invokestatic 144, 3) := by decide +kernel
theorem dX11_see_6 : decode cX11_see 6 = .ok (.ifCond .eq 11, 3) := by decide +kernel
theorem dX11_see_9 : decode cX11_see 9 = .ok (.iload_n 2, 1) := by decide +kernel
theorem dX11_see_10 : decode cX11_see 10 = .ok (.iconst 2, 1) := by decide +kernel
theorem dX11_see_11 : decode cX11_see 11 = .ok (.invokestatic 144, 3) := by decide +kernel
theorem dX11_see_14 : decode cX11_see 14 = .ok (.ifCond .ne 9, 3) := by decide +kernel
theorem dX11_see_17 : decode cX11_see 17 = .ok (.aload_n 0, 1) := by decide +kernel
theorem dX11_see_18 : decode cX11_see 18 = .ok (.iconst (-1), 1) := by decide +kernel
theorem dX11_see_19 : decode cX11_see 19 = .ok (.invokevirtual 152, 3) := by decide +kernel
theorem dX11_see_22 : decode cX11_see 22 = .ok (.ireturn, 1) := by decide +kernel
theorem dX11_see_23 : decode cX11_see 23 = .ok (.iconst 0, 1) := by decide +kernel
theorem dX11_see_24 : decode cX11_see 24 = .ok (.istore_n 3, 1) := by decide +kernel
theorem dX11_see_25 : decode cX11_see 25 = .ok (.iload_n 3, 1) := by decide +kernel
theorem dX11_see_26 : decode cX11_see 26 = .ok (.aload_n 0, 1) := by decide +kernel
theorem dX11_see_27 : decode cX11_see 27 = .ok (.getfield 253, 3) := by decide +kernel
theorem dX11_see_30 : decode cX11_see 30 = .ok (.if_icmp .ge 31, 3) := by decide +kernel
theorem dX11_see_33 : decode cX11_see 33 = .ok (.aload_n 0, 1) := by decide +kernel
theorem dX11_see_34 : decode cX11_see 34 = .ok (.getfield 111, 3) := by decide +kernel
theorem dX11_see_37 : decode cX11_see 37 = .ok (.iload_n 3, 1) := by decide +kernel
theorem dX11_see_38 : decode cX11_see 38 = .ok (.iaload, 1) := by decide +kernel
theorem dX11_see_39 : decode cX11_see 39 = .ok (.iload_n 1, 1) := by decide +kernel
theorem dX11_see_40 : decode cX11_see 40 = .ok (.if_icmp .ne 15, 3) := by decide +kernel
theorem dX11_see_43 : decode cX11_see 43 = .ok (.aload_n 0, 1) := by decide +kernel
theorem dX11_see_44 : decode cX11_see 44 = .ok (.getfield 114, 3) := by decide +kernel
theorem dX11_see_47 : decode cX11_see 47 = .ok (.iload_n 3, 1) := by decide +kernel
theorem dX11_see_48 : decode cX11_see 48 = .ok (.iaload, 1) := by decide +kernel
theorem dX11_see_49 : decode cX11_see 49 = .ok (.iload_n 2, 1) := by decide +kernel
theorem dX11_see_50 : decode cX11_see 50 = .ok (.if_icmp .ne 5, 3) := by decide +kernel
theorem dX11_see_53 : decode cX11_see 53 = .ok (.iconst 0, 1) := by decide +kernel
theorem dX11_see_54 : decode cX11_see 54 = .ok (.ireturn, 1) := by decide +kernel
theorem dX11_see_55 : decode cX11_see 55 = .ok (.iinc 3 1, 3) := by decide +kernel
theorem dX11_see_58 : decode cX11_see 58 = .ok (.goto (-33), 3) := by decide +kernel
theorem dX11_see_61 : decode cX11_see 61 = .ok (.aload_n 0, 1) := by decide +kernel
theorem dX11_see_62 : decode cX11_see 62 = .ok (.getfield 111, 3) := by decide +kernel
theorem dX11_see_65 : decode cX11_see 65 = .ok (.aload_n 0, 1) := by decide +kernel
theorem dX11_see_66 : decode cX11_see 66 = .ok (.getfield 253, 3) := by decide +kernel
theorem dX11_see_69 : decode cX11_see 69 = .ok (.iload_n 1, 1) := by decide +kernel
theorem dX11_see_70 : decode cX11_see 70 = .ok (.iastore, 1) := by decide +kernel
theorem dX11_see_71 : decode cX11_see 71 = .ok (.aload_n 0, 1) := by decide +kernel
theorem dX11_see_72 : decode cX11_see 72 = .ok (.getfield 114, 3) := by decide +kernel
theorem dX11_see_75 : decode cX11_see 75 = .ok (.aload_n 0, 1) := by decide +kernel
theorem dX11_see_76 : decode cX11_see 76 = .ok (.getfield 253, 3) := by decide +kernel
theorem dX11_see_79 : decode cX11_see 79 = .ok (.iload_n 2, 1) := by decide +kernel
theorem dX11_see_80 : decode cX11_see 80 = .ok (.iastore, 1) := by decide +kernel
theorem dX11_see_81 : decode cX11_see 81 = .ok (.aload_n 0, 1) := by decide +kernel
theorem dX11_see_82 : decode cX11_see 82 = .ok (.getfield 117, 3) := by decide +kernel
theorem dX11_see_85 : decode cX11_see 85 = .ok (.aload_n 0, 1) := by decide +kernel
theorem dX11_see_86 : decode cX11_see 86 = .ok (.getfield 253, 3) := by decide +kernel
theorem dX11_see_89 : decode cX11_see 89 = .ok (.aload_n 0, 1) := by decide +kernel
theorem dX11_see_90 : decode cX11_see 90 = .ok (.getfield 160, 3) := by decide +kernel
theorem dX11_see_93 : decode cX11_see 93 = .ok (.iastore, 1) := by decide +kernel
theorem dX11_see_94 : decode cX11_see 94 = .ok (.aload_n 0, 1) := by decide +kernel
theorem dX11_see_95 : decode cX11_see 95 = .ok (.dup, 1) := by decide +kernel
theorem dX11_see_96 : decode cX11_see 96 = .ok (.getfield 253, 3) := by decide +kernel
theorem dX11_see_99 : decode cX11_see 99 = .ok (.iconst 1, 1) := by decide +kernel
theorem dX11_see_100 : decode cX11_see 100 = .ok (.iadd, 1) := by decide +kernel
theorem dX11_see_101 : decode cX11_see 101 = .ok (.putfield 253, 3) := by decide +kernel
theorem dX11_see_104 : decode cX11_see 104 = .ok (.iconst 1, 1) := by decide +kernel
theorem dX11_see_105 : decode cX11_see 105 = .ok (.ireturn, 1) := by decide +kernel
theorem dX11_talk_0 : decode cX11_talk 0 = .ok (.iload_n 1, 1) := by decide +kernel
theorem dX11_talk_1 : decode cX11_talk 1 = .ok (.bipush 16, 2) := by decide +kernel
theorem dX11_talk_3 : decode cX11_talk 3 = .ok (.invokestatic 144, 3) := by decide +kernel
theorem dX11_talk_6 : decode cX11_talk 6 = .ok (.ifCond .eq 17, 3) := by decide +kernel
theorem dX11_talk_9 : decode cX11_talk 9 = .ok (.iload_n 2, 1) := by decide +kernel
theorem dX11_talk_10 : decode cX11_talk 10 = .ok (.bipush 16, 2) := by decide +kernel
theorem dX11_talk_12 : decode cX11_talk 12 = .ok (.invokestatic 144, 3) := by decide +kernel
theorem dX11_talk_15 : decode cX11_talk 15 = .ok (.ifCond .eq 8, 3) := by decide +kernel
theorem dX11_talk_18 : decode cX11_talk 18 = .ok (.iload_n 1, 1) := by decide +kernel
theorem dX11_talk_19 : decode cX11_talk 19 = .ok (.iload_n 2, 1) := by decide +kernel
theorem dX11_talk_20 : decode cX11_talk 20 = .ok (.if_icmp .ne 9, 3) := by decide +kernel
theorem dX11_talk_23 : decode cX11_talk 23 = .ok (.aload_n 0, 1) := by decide +kernel
theorem dX11_talk_24 : decode cX11_talk 24 = .ok (.iconst (-1), 1) := by decide +kernel
theorem dX11_talk_25 : decode cX11_talk 25 = .ok (.invokevirtual 152, 3) := by decide +kernel
theorem dX11_talk_28 : decode cX11_talk 28 = .ok (.ireturn, 1) := by decide +kernel
theorem dX11_talk_29 : decode cX11_talk 29 = .ok (.iconst 0, 1) := by decide +kernel
theorem dX11_talk_30 : decode cX11_talk 30 = .ok (.istore_n 3, 1) := by decide +kernel
theorem dX11_talk_31 : decode cX11_talk 31 = .ok (.iload_n 3, 1) := by decide +kernel
theorem dX11_talk_32 : decode cX11_talk 32 = .ok (.aload_n 0, 1) := by decide +kernel
theorem dX11_talk_33 : decode cX11_talk 33 = .ok (.getfield 256, 3) := by decide +kernel
theorem dX11_talk_36 : decode cX11_talk 36 = .ok (.if_icmp .ge 64, 3) := by decide +kernel
theorem dX11_talk_39 : decode cX11_talk 39 = .ok (.aload_n 0, 1) := by decide +kernel
theorem dX11_talk_40 : decode cX11_talk 40 = .ok (.getfield 126, 3) := by decide +kernel
theorem dX11_talk_43 : decode cX11_talk 43 = .ok (.iload_n 3, 1) := by decide +kernel
theorem dX11_talk_44 : decode cX11_talk 44 = .ok (.iaload, 1) := by decide +kernel
theorem dX11_talk_45 : decode cX11_talk 45 = .ok (.aload_n 0, 1) := by decide +kernel
theorem dX11_talk_46 : decode cX11_talk 46 = .ok (.getfield 160, 3) := by decide +kernel
theorem dX11_talk_49 : decode cX11_talk 49 = .ok (.if_icmp .ne 45, 3) := by decide +kernel
theorem dX11_talk_52 : decode cX11_talk 52 = .ok (.aload_n 0, 1) := by decide +kernel
theorem dX11_talk_53 : decode cX11_talk 53 = .ok (.getfield 120, 3) := by decide +kernel
theorem dX11_talk_56 : decode cX11_talk 56 = .ok (.iload_n 3, 1) := by decide +kernel
theorem dX11_talk_57 : decode cX11_talk 57 = .ok (.iaload, 1) := by decide +kernel
theorem dX11_talk_58 : decode cX11_talk 58 = .ok (.iload_n 1, 1) := by decide +kernel
theorem dX11_talk_59 : decode cX11_talk 59 = .ok (.if_icmp .ne 13, 3) := by decide +kernel
theorem dX11_talk_62 : decode cX11_talk 62 = .ok (.aload_n 0, 1) := by decide +kernel
theorem dX11_talk_63 : decode cX11_talk 63 = .ok (.getfield 123, 3) := by decide +kernel
theorem dX11_talk_66 : decode cX11_talk 66 = .ok (.iload_n 3, 1) := by decide +kernel
theorem dX11_talk_67 : decode cX11_talk 67 = .ok (.iaload, 1) := by decide +kernel
theorem dX11_talk_68 : decode cX11_talk 68 = .ok (.iload_n 2, 1) := by decide +kernel
theorem dX11_talk_69 : decode cX11_talk 69 = .ok (.if_icmp .eq 23, 3) := by decide +kernel
theorem dX11_talk_72 : decode cX11_talk 72 = .ok (.aload_n 0, 1) := by decide +kernel
theorem dX11_talk_73 : decode cX11_talk 73 = .ok (.getfield 120, 3) := by decide +kernel
theorem dX11_talk_76 : decode cX11_talk 76 = .ok (.iload_n 3, 1) := by decide +kernel
theorem dX11_talk_77 : decode cX11_talk 77 = .ok (.iaload, 1) := by decide +kernel
theorem dX11_talk_78 : decode cX11_talk 78 = .ok (.iload_n 2, 1) := by decide +kernel
theorem dX11_talk_79 : decode cX11_talk 79 = .ok (.if_icmp .ne 15, 3) := by decide +kernel
theorem dX11_talk_82 : decode cX11_talk 82 = .ok (.aload_n 0, 1) := by decide +kernel
theorem dX11_talk_83 : decode cX11_talk 83 = .ok (.getfield 123, 3) := by decide +kernel
theorem dX11_talk_86 : decode cX11_talk 86 = .ok (.iload_n 3, 1) := by decide +kernel
theorem dX11_talk_87 : decode cX11_talk 87 = .ok (.iaload, 1) := by decide +kernel
theorem dX11_talk_88 : decode cX11_talk 88 = .ok (.iload_n 1, 1) := by decide +kernel
theorem dX11_talk_89 : decode cX11_talk 89 = .ok (.if_icmp .ne 5, 3) := by decide +kernel
theorem dX11_talk_92 : decode cX11_talk 92 = .ok (.iconst 0, 1) := by decide +kernel
theorem dX11_talk_93 : decode cX11_talk 93 = .ok (.ireturn, 1) := by decide +kernel
theorem dX11_talk_94 : decode cX11_talk 94 = .ok (.iinc 3 1, 3) := by decide +kernel
theorem dX11_talk_97 : decode cX11_talk 97 = .ok (.goto (-66), 3) := by decide +kernel
theorem dX11_talk_100 : decode cX11_talk 100 = .ok (.aload_n 0, 1) := by decide +kernel
theorem dX11_talk_101 : decode cX11_talk 101 = .ok (.getfield 256, 3) := by decide +kernel
theorem dX11_talk_104 : decode cX11_talk 104 = .ok (.bipush 60, 2) := by decide +kernel
theorem dX11_talk_106 : decode cX11_talk 106 = .ok (.if_icmp .ne 10, 3) := by decide +kernel
theorem dX11_talk_109 : decode cX11_talk 109 = .ok (.aload_n 0, 1) := by decide +kernel
theorem dX11_talk_110 : decode cX11_talk 110 = .ok (.bipush (-6), 2) := by decide +kernel
theorem dX11_talk_112 : decode cX11_talk 112 = .ok (.invokevirtual 152, 3) := by decide +kernel
theorem dX11_talk_115 : decode cX11_talk 115 = .ok (.ireturn, 1) := by decide +kernel
theorem dX11_talk_116 : decode cX11_talk 116 = .ok (.aload_n 0, 1) := by decide +kernel
theorem dX11_talk_117 : decode cX11_talk 117 = .ok (.getfield 120, 3) := by decide +kernel
theorem dX11_talk_120 : decode cX11_talk 120 = .ok (.aload_n 0, 1) := by decide +kernel
theorem dX11_talk_121 : decode cX11_talk 121 = .ok (.getfield 256, 3) := by decide +kernel
theorem dX11_talk_124 : decode cX11_talk 124 = .ok (.iload_n 1, 1) := by decide +kernel
theorem dX11_talk_125 : decode cX11_talk 125 = .ok (.iastore, 1) := by decide +kernel
theorem dX11_talk_126 : decode cX11_talk 126 = .ok (.aload_n 0, 1) := by decide +kernel
theorem dX11_talk_127 : decode cX11_talk 127 = .ok (.getfield 123, 3) := by decide +kernel
theorem dX11_talk_130 : decode cX11_talk 130 = .ok (.aload_n 0, 1) := by decide +kernel
theorem dX11_talk_131 : decode cX11_talk 131 = .ok (.getfield 256, 3) := by decide +kernel
theorem dX11_talk_134 : decode cX11_talk 134 = .ok (.iload_n 2, 1) := by decide +kernel
theorem dX11_talk_135 : decode cX11_talk 135 = .ok (.iastore, 1) := by decide +kernel
theorem dX11_talk_136 : decode cX11_talk 136 = .ok (.aload_n 0, 1) := by decide +kernel
theorem dX11_talk_137 : decode cX11_talk 137 = .ok (.getfield 126, 3) := by decide +kernel
theorem dX11_talk_140 : decode cX11_talk 140 = .ok (.aload_n 0, 1) := by decide +kernel
theorem dX11_talk_141 : decode cX11_talk 141 = .ok (.getfield 256, 3) := by decide +kernel
theorem dX11_talk_144 : decode cX11_talk 144 = .ok (.aload_n 0, 1) := by decide +kernel
theorem dX11_talk_145 : decode cX11_talk 145 = .ok (.getfield 160, 3) := by decide +kernel
theorem dX11_talk_148 : decode cX11_talk 148 = .ok (.iastore, 1) := by decide +kernel
theorem dX11_talk_149 : decode cX11_talk 149 = .ok (.aload_n 0, 1) := by decide +kernel
theorem dX11_talk_150 : decode cX11_talk 150 = .ok (.dup, 1) := by decide +kernel
theorem dX11_talk_151 : decode cX11_talk 151 = .ok (.getfield 256, 3) := by decide +kernel
theorem dX11_talk_154 : decode cX11_talk 154 = .ok (.iconst 1, 1) := by decide +kernel
theorem dX11_talk_155 : decode cX11_talk 155 = .ok (.iadd, 1) := by decide +kernel
theorem dX11_talk_156 : decode cX11_talk 156 = .ok (.putfield 256, 3) := by decide +kernel
theorem dX11_talk_159 : decode cX11_talk 159 = .ok (.iconst 1, 1) := by decide +kernel
theorem dX11_talk_160 : decode cX11_talk 160 = .ok (.ireturn, 1) := by decide +kernel
theorem dX11_tells_0 : decode cX11_tells 0 = .ok (.bipush (-9), 2) := by decide +kernel
theorem dX11_tells_2 : decode cX11_tells 2 = .ok (.istore_n 2, 1) := by decide +kernel
theorem dX11_tells_3 : decode cX11_tells 3 = .ok (.iconst 0, 1) := by decide +kernel
theorem dX11_tells_4 : decode cX11_tells 4 = .ok (.istore_n 3, 1) := by decide +kernel
theorem dX11_tells_5 : decode cX11_tells 5 = .ok (.iload_n 3, 1) := by decide +kernel
theorem dX11_tells_6 : decode cX11_tells 6 = .ok (.bipush 16, 2) := by decide +kernel
theorem dX11_tells_8 : decode cX11_tells 8 = .ok (.if_icmp .ge 16, 3) := by decide +kernel
theorem dX11_tells_11 : decode cX11_tells 11 = .ok (.aload_n 0, 1) := by decide +kernel
theorem dX11_tells_12 : decode cX11_tells 12 = .ok (.getfield 129, 3) := by decide +kernel
theorem dX11_tells_15 : decode cX11_tells 15 = .ok (.iload_n 3, 1) := by decide +kernel
theorem dX11_tells_16 : decode cX11_tells 16 = .ok (.iconst 0, 1) := by decide +kernel
theorem dX11_tells_17 : decode cX11_tells 17 = .ok (.iastore, 1) := by decide +kernel
theorem dX11_tells_18 : decode cX11_tells 18 = .ok (.iinc 3 1, 3) := by decide +kernel
theorem dX11_tells_21 : decode cX11_tells 21 = .ok (.goto (-16), 3) := by decide +kernel
theorem dX11_tells_24 : decode cX11_tells 24 = .ok (.iconst (-1), 1) := by decide +kernel
theorem dX11_tells_25 : decode cX11_tells 25 = .ok (.istore_n 3, 1) := by decide +kernel
theorem dX11_tells_26 : decode cX11_tells 26 = .ok (.aload_n 0, 1) := by decide +kernel
theorem dX11_tells_27 : decode cX11_tells 27 = .ok (.iload_n 3, 1) := by decide +kernel
theorem dX11_tells_28 : decode cX11_tells 28 = .ok (.invokevirtual 259, 3) := by decide +kernel
theorem dX11_tells_31 : decode cX11_tells 31 = .ok (.istore 4, 2) := by decide +kernel
theorem dX11_tells_33 : decode cX11_tells 33 = .ok (.iload 4, 2) := by decide +kernel
theorem dX11_tells_35 : decode cX11_tells 35 = .ok (.ifCond .lt 224, 3) := by decide +kernel
theorem dX11_tells_38 : decode cX11_tells 38 = .ok (.iload 4, 2) := by decide +kernel
theorem dX11_tells_40 : decode cX11_tells 40 = .ok (.istore_n 3, 1) := by decide +kernel
theorem dX11_tells_41 : decode cX11_tells 41 = .ok (.iconst 0, 1) := by decide +kernel
theorem dX11_tells_42 : decode cX11_tells 42 = .ok (.istore 5, 2) := by decide +kernel
theorem dX11_tells_44 : decode cX11_tells 44 = .ok (.iload 5, 2) := by decide +kernel
theorem dX11_tells_46 : decode cX11_tells 46 = .ok (.aload_n 0, 1) := by decide +kernel
theorem dX11_tells_47 : decode cX11_tells 47 = .ok (.getfield 253, 3) := by decide +kernel
theorem dX11_tells_50 : decode cX11_tells 50 = .ok (.if_icmp .ge 44, 3) := by decide +kernel
theorem dX11_tells_53 : decode cX11_tells 53 = .ok (.aload_n 0, 1) := by decide +kernel
theorem dX11_tells_54 : decode cX11_tells 54 = .ok (.getfield 117, 3) := by decide +kernel
theorem dX11_tells_57 : decode cX11_tells 57 = .ok (.iload 5, 2) := by decide +kernel
theorem dX11_tells_59 : decode cX11_tells 59 = .ok (.iaload, 1) := by decide +kernel
theorem dX11_tells_60 : decode cX11_tells 60 = .ok (.iload_n 3, 1) := by decide +kernel
theorem dX11_tells_61 : decode cX11_tells 61 = .ok (.if_icmp .ne 27, 3) := by decide +kernel
theorem dX11_tells_64 : decode cX11_tells 64 = .ok (.aload_n 0, 1) := by decide +kernel
theorem dX11_tells_65 : decode cX11_tells 65 = .ok (.getfield 129, 3) := by decide +kernel
theorem dX11_tells_68 : decode cX11_tells 68 = .ok (.aload_n 0, 1) := by decide +kernel
theorem dX11_tells_69 : decode cX11_tells 69 = .ok (.getfield 111, 3) := by decide +kernel
theorem dX11_tells_72 : decode cX11_tells 72 = .ok (.iload 5, 2) := by decide +kernel
theorem dX11_tells_74 : decode cX11_tells 74 = .ok (.iaload, 1) := by decide +kernel
theorem dX11_tells_75 : decode cX11_tells 75 = .ok (.dup2, 1) := by decide +kernel
theorem dX11_tells_76 : decode cX11_tells 76 = .ok (.iaload, 1) := by decide +kernel
theorem dX11_tells_77 : decode cX11_tells 77 = .ok (.iconst 1, 1) := by decide +kernel
theorem dX11_tells_78 : decode cX11_tells 78 = .ok (.aload_n 0, 1) := by decide +kernel
theorem dX11_tells_79 : decode cX11_tells 79 = .ok (.getfield 114, 3) := by decide +kernel
theorem dX11_tells_82 : decode cX11_tells 82 = .ok (.iload 5, 2) := by decide +kernel
theorem dX11_tells_84 : decode cX11_tells 84 = .ok (.iaload, 1) := by decide +kernel
theorem dX11_tells_85 : decode cX11_tells 85 = .ok (.ishl, 1) := by decide +kernel
theorem dX11_tells_86 : decode cX11_tells 86 = .ok (.ior, 1) := by decide +kernel
theorem dX11_tells_87 : decode cX11_tells 87 = .ok (.iastore, 1) := by decide +kernel
theorem dX11_tells_88 : decode cX11_tells 88 = .ok (.iinc 5 1, 3) := by decide +kernel
theorem dX11_tells_91 : decode cX11_tells 91 = .ok (.goto (-47), 3) := by decide +kernel
theorem dX11_tells_94 : decode cX11_tells 94 = .ok (.iconst 0, 1) := by decide +kernel
theorem dX11_tells_95 : decode cX11_tells 95 = .ok (.istore 5, 2) := by decide +kernel
theorem dX11_tells_97 : decode cX11_tells 97 = .ok (.iload 5, 2) := by decide +kernel
theorem dX11_tells_99 : decode cX11_tells 99 = .ok (.bipush 16, 2) := by decide +kernel
theorem dX11_tells_101 : decode cX11_tells 101 = .ok (.if_icmp .ge 23, 3) := by decide +kernel
theorem dX11_tells_104 : decode cX11_tells 104 = .ok (.aload_n 0, 1) := by decide +kernel
theorem dX11_tells_105 : decode cX11_tells 105 = .ok (.getfield 132, 3) := by decide +kernel
theorem dX11_tells_108 : decode cX11_tells 108 = .ok (.iload 5, 2) := by decide +kernel
theorem dX11_tells_110 : decode cX11_tells 110 = .ok (.aload_n 0, 1) := by decide +kernel
theorem dX11_tells_111 : decode cX11_tells 111 = .ok (.getfield 129, 3) := by decide +kernel
theorem dX11_tells_114 : decode cX11_tells 114 = .ok (.iload 5, 2) := by decide +kernel
theorem dX11_tells_116 : decode cX11_tells 116 = .ok (.iaload, 1) := by decide +kernel
theorem dX11_tells_117 : decode cX11_tells 117 = .ok (.iastore, 1) := by decide +kernel
theorem dX11_tells_118 : decode cX11_tells 118 = .ok (.iinc 5 1, 3) := by decide +kernel
theorem dX11_tells_121 : decode cX11_tells 121 = .ok (.goto (-24), 3) := by decide +kernel
theorem dX11_tells_124 : decode cX11_tells 124 = .ok (.iconst 0, 1) := by decide +kernel
theorem dX11_tells_125 : decode cX11_tells 125 = .ok (.istore 5, 2) := by decide +kernel
theorem dX11_tells_127 : decode cX11_tells 127 = .ok (.iload 5, 2) := by decide +kernel
theorem dX11_tells_129 : decode cX11_tells 129 = .ok (.aload_n 0, 1) := by decide +kernel
theorem dX11_tells_130 : decode cX11_tells 130 = .ok (.getfield 256, 3) := by decide +kernel
theorem dX11_tells_133 : decode cX11_tells 133 = .ok (.if_icmp .ge 83, 3) := by decide +kernel
theorem dX11_tells_136 : decode cX11_tells 136 = .ok (.aload_n 0, 1) := by decide +kernel
theorem dX11_tells_137 : decode cX11_tells 137 = .ok (.getfield 126, 3) := by decide +kernel
theorem dX11_tells_140 : decode cX11_tells 140 = .ok (.iload 5, 2) := by decide +kernel
theorem dX11_tells_142 : decode cX11_tells 142 = .ok (.iaload, 1) := by decide +kernel
theorem dX11_tells_143 : decode cX11_tells 143 = .ok (.iload_n 3, 1) := by decide +kernel
theorem dX11_tells_144 : decode cX11_tells 144 = .ok (.if_icmp .ne 66, 3) := by decide +kernel
theorem dX11_tells_147 : decode cX11_tells 147 = .ok (.iload 5, 2) := by decide +kernel
theorem dX11_tells_149 : decode cX11_tells 149 = .ok (.iload_n 1, 1) := by decide +kernel
theorem dX11_tells_150 : decode cX11_tells 150 = .ok (.if_icmp .ne 6, 3) := by decide +kernel
theorem dX11_tells_153 : decode cX11_tells 153 = .ok (.goto 57, 3) := by decide +kernel
theorem dX11_tells_156 : decode cX11_tells 156 = .ok (.aload_n 0, 1) := by decide +kernel
theorem dX11_tells_157 : decode cX11_tells 157 = .ok (.getfield 129, 3) := by decide +kernel
theorem dX11_tells_160 : decode cX11_tells 160 = .ok (.aload_n 0, 1) := by decide +kernel
theorem dX11_tells_161 : decode cX11_tells 161 = .ok (.getfield 120, 3) := by decide +kernel
theorem dX11_tells_164 : decode cX11_tells 164 = .ok (.iload 5, 2) := by decide +kernel
theorem dX11_tells_166 : decode cX11_tells 166 = .ok (.iaload, 1) := by decide +kernel
theorem dX11_tells_167 : decode cX11_tells 167 = .ok (.dup2, 1) := by decide +kernel
theorem dX11_tells_168 : decode cX11_tells 168 = .ok (.iaload, 1) := by decide +kernel
theorem dX11_tells_169 : decode cX11_tells 169 = .ok (.aload_n 0, 1) := by decide +kernel
theorem dX11_tells_170 : decode cX11_tells 170 = .ok (.getfield 132, 3) := by decide +kernel
theorem dX11_tells_173 : decode cX11_tells 173 = .ok (.aload_n 0, 1) := by decide +kernel
theorem dX11_tells_174 : decode cX11_tells 174 = .ok (.getfield 123, 3) := by decide +kernel
theorem dX11_tells_177 : decode cX11_tells 177 = .ok (.iload 5, 2) := by decide +kernel
theorem dX11_tells_179 : decode cX11_tells 179 = .ok (.iaload, 1) := by decide +kernel
theorem dX11_tells_180 : decode cX11_tells 180 = .ok (.iaload, 1) := by decide +kernel
theorem dX11_tells_181 : decode cX11_tells 181 = .ok (.ior, 1) := by decide +kernel
theorem dX11_tells_182 : decode cX11_tells 182 = .ok (.iastore, 1) := by decide +kernel
theorem dX11_tells_183 : decode cX11_tells 183 = .ok (.aload_n 0, 1) := by decide +kernel
theorem dX11_tells_184 : decode cX11_tells 184 = .ok (.getfield 129, 3) := by decide +kernel
theorem dX11_tells_187 : decode cX11_tells 187 = .ok (.aload_n 0, 1) := by decide +kernel
theorem dX11_tells_188 : decode cX11_tells 188 = .ok (.getfield 123, 3) := by decide +kernel
theorem dX11_tells_191 : decode cX11_tells 191 = .ok (.iload 5, 2) := by decide +kernel
theorem dX11_tells_193 : decode cX11_tells 193 = .ok (.iaload, 1) := by decide +kernel
theorem dX11_tells_194 : decode cX11_tells 194 = .ok (.dup2, 1) := by decide +kernel
theorem dX11_tells_195 : decode cX11_tells 195 = .ok (.iaload, 1) := by decide +kernel
theorem dX11_tells_196 : decode cX11_tells 196 = .ok (.aload_n 0, 1) := by decide +kernel
theorem dX11_tells_197 : decode cX11_tells 197 = .ok (.getfield 132, 3) := by decide +kernel
theorem dX11_tells_200 : decode cX11_tells 200 = .ok (.aload_n 0, 1) := by decide +kernel
theorem dX11_tells_201 : decode cX11_tells 201 = .ok (.getfield 120, 3) := by decide +kernel
theorem dX11_tells_204 : decode cX11_tells 204 = .ok (.iload 5, 2) := by decide +kernel
theorem dX11_tells_206 : decode cX11_tells 206 = .ok (.iaload, 1) := by decide +kernel
theorem dX11_tells_207 : decode cX11_tells 207 = .ok (.iaload, 1) := by decide +kernel
theorem dX11_tells_208 : decode cX11_tells 208 = .ok (.ior, 1) := by decide +kernel
theorem dX11_tells_209 : decode cX11_tells 209 = .ok (.iastore, 1) := by decide +kernel
theorem dX11_tells_210 : decode cX11_tells 210 = .ok (.iinc 5 1, 3) := by decide +kernel
theorem dX11_tells_213 : decode cX11_tells 213 = .ok (.goto (-86), 3) := by decide +kernel
theorem dX11_tells_216 : decode cX11_tells 216 = .ok (.iconst 0, 1) := by decide +kernel
theorem dX11_tells_217 : decode cX11_tells 217 = .ok (.istore 5, 2) := by decide +kernel
theorem dX11_tells_219 : decode cX11_tells 219 = .ok (.iload 5, 2) := by decide +kernel
theorem dX11_tells_221 : decode cX11_tells 221 = .ok (.bipush 16, 2) := by decide +kernel
theorem dX11_tells_223 : decode cX11_tells 223 = .ok (.if_icmp .ge 26, 3) := by decide +kernel
theorem dX11_tells_226 : decode cX11_tells 226 = .ok (.aload_n 0, 1) := by decide +kernel
theorem dX11_tells_227 : decode cX11_tells 227 = .ok (.getfield 129, 3) := by decide +kernel
theorem dX11_tells_230 : decode cX11_tells 230 = .ok (.iload 5, 2) := by decide +kernel
theorem dX11_tells_232 : decode cX11_tells 232 = .ok (.iaload, 1) := by decide +kernel
theorem dX11_tells_233 : decode cX11_tells 233 = .ok (.iconst 3, 1) := by decide +kernel
theorem dX11_tells_234 : decode cX11_tells 234 = .ok (.if_icmp .ne 9, 3) := by decide +kernel
theorem dX11_tells_237 : decode cX11_tells 237 = .ok (.iload_n 2, 1) := by decide +kernel
theorem dX11_tells_238 : decode cX11_tells 238 = .ok (.ifCond .ge 5, 3) := by decide +kernel
theorem dX11_tells_241 : decode cX11_tells 241 = .ok (.iload_n 3, 1) := by decide +kernel
theorem dX11_tells_242 : decode cX11_tells 242 = .ok (.istore_n 2, 1) := by decide +kernel
theorem dX11_tells_243 : decode cX11_tells 243 = .ok (.iinc 5 1, 3) := by decide +kernel
theorem dX11_tells_246 : decode cX11_tells 246 = .ok (.goto (-27), 3) := by decide +kernel
theorem dX11_tells_249 : decode cX11_tells 249 = .ok (.aload_n 0, 1) := by decide +kernel
theorem dX11_tells_250 : decode cX11_tells 250 = .ok (.iload_n 3, 1) := by decide +kernel
theorem dX11_tells_251 : decode cX11_tells 251 = .ok (.invokevirtual 259, 3) := by decide +kernel
theorem dX11_tells_254 : decode cX11_tells 254 = .ok (.istore 4, 2) := by decide +kernel
theorem dX11_tells_256 : decode cX11_tells 256 = .ok (.goto (-223), 3) := by decide +kernel
theorem dX11_tells_259 : decode cX11_tells 259 = .ok (.iload_n 2, 1) := by decide +kernel
theorem dX11_tells_260 : decode cX11_tells 260 = .ok (.ireturn, 1) := by decide +kernel
theorem dX11_nextDay_0 : decode cX11_nextDay 0 = .ok (.iconst (-1), 1) := by decide +kernel
theorem dX11_nextDay_1 : decode cX11_nextDay 1 = .ok (.istore_n 2, 1) := by decide +kernel
theorem dX11_nextDay_2 : decode cX11_nextDay 2 = .ok (.iconst 0, 1) := by decide +kernel
theorem dX11_nextDay_3 : decode cX11_nextDay 3 = .ok (.istore_n 3, 1) := by decide +kernel
theorem dX11_nextDay_4 : decode cX11_nextDay 4 = .ok (.iload_n 3, 1) := by decide +kernel
theorem dX11_nextDay_5 : decode cX11_nextDay 5 = .ok (.aload_n 0, 1) := by decide +kernel
theorem dX11_nextDay_6 : decode cX11_nextDay 6 = .ok (.getfield 253, 3) := by decide +kernel
theorem dX11_nextDay_9 : decode cX11_nextDay 9 = .ok (.if_icmp .ge 40, 3) := by decide +kernel
theorem dX11_nextDay_12 : decode cX11_nextDay 12 = .ok (.aload_n 0, 1) := by decide +kernel
theorem dX11_nextDay_13 : decode cX11_nextDay 13 = .ok (.getfield 117, 3) := by decide +kernel
theorem dX11_nextDay_16 : decode cX11_nextDay 16 = .ok (.iload_n 3, 1) := by decide +kernel
theorem dX11_nextDay_17 : decode cX11_nextDay 17 = .ok (.iaload, 1) := by decide +kernel
theorem dX11_nextDay_18 : decode cX11_nextDay 18 = .ok (.iload_n 1, 1) := by decide +kernel
theorem dX11_nextDay_19 : decode cX11_nextDay 19 = .ok (.if_icmp .le 24, 3) := by decide +kernel
theorem dX11_nextDay_22 : decode cX11_nextDay 22 = .ok (.iload_n 2, 1) := by decide +kernel
theorem dX11_nextDay_23 : decode cX11_nextDay 23 = .ok (.ifCond .lt 13, 3) := by decide +kernel
theorem dX11_nextDay_26 : decode cX11_nextDay 26 = .ok (.aload_n 0, 1) := by decide +kernel
theorem dX11_nextDay_27 : decode cX11_nextDay 27 = .ok (.getfield 117, 3) := by decide +kernel
theorem dX11_nextDay_30 : decode cX11_nextDay 30 = .ok (.iload_n 3, 1) := by decide +kernel
theorem dX11_nextDay_31 : decode cX11_nextDay 31 = .ok (.iaload, 1) := by decide +kernel
theorem dX11_nextDay_32 : decode cX11_nextDay 32 = .ok (.iload_n 2, 1) := by decide +kernel
theorem dX11_nextDay_33 : decode cX11_nextDay 33 = .ok (.if_icmp .ge 10, 3) := by decide +kernel
theorem dX11_nextDay_36 : decode cX11_nextDay 36 = .ok (.aload_n 0, 1) := by decide +kernel
theorem dX11_nextDay_37 : decode cX11_nextDay 37 = .ok (.getfield 117, 3) := by decide +kernel
theorem dX11_nextDay_40 : decode cX11_nextDay 40 = .ok (.iload_n 3, 1) := by decide +kernel
theorem dX11_nextDay_41 : decode cX11_nextDay 41 = .ok (.iaload, 1) := by decide +kernel
theorem dX11_nextDay_42 : decode cX11_nextDay 42 = .ok (.istore_n 2, 1) := by decide +kernel
theorem dX11_nextDay_43 : decode cX11_nextDay 43 = .ok (.iinc 3 1, 3) := by decide +kernel
theorem dX11_nextDay_46 : decode cX11_nextDay 46 = .ok (.goto (-42), 3) := by decide +kernel
theorem dX11_nextDay_49 : decode cX11_nextDay 49 = .ok (.iconst 0, 1) := by decide +kernel
theorem dX11_nextDay_50 : decode cX11_nextDay 50 = .ok (.istore_n 3, 1) := by decide +kernel
theorem dX11_nextDay_51 : decode cX11_nextDay 51 = .ok (.iload_n 3, 1) := by decide +kernel
theorem dX11_nextDay_52 : decode cX11_nextDay 52 = .ok (.aload_n 0, 1) := by decide +kernel
theorem dX11_nextDay_53 : decode cX11_nextDay 53 = .ok (.getfield 256, 3) := by decide +kernel
theorem dX11_nextDay_56 : decode cX11_nextDay 56 = .ok (.if_icmp .ge 40, 3) := by decide +kernel
theorem dX11_nextDay_59 : decode cX11_nextDay 59 = .ok (.aload_n 0, 1) := by decide +kernel
theorem dX11_nextDay_60 : decode cX11_nextDay 60 = .ok (.getfield 126, 3) := by decide +kernel
theorem dX11_nextDay_63 : decode cX11_nextDay 63 = .ok (.iload_n 3, 1) := by decide +kernel
theorem dX11_nextDay_64 : decode cX11_nextDay 64 = .ok (.iaload, 1) := by decide +kernel
theorem dX11_nextDay_65 : decode cX11_nextDay 65 = .ok (.iload_n 1, 1) := by decide +kernel
theorem dX11_nextDay_66 : decode cX11_nextDay 66 = .ok (.if_icmp .le 24, 3) := by decide +kernel
theorem dX11_nextDay_69 : decode cX11_nextDay 69 = .ok (.iload_n 2, 1) := by decide +kernel
theorem dX11_nextDay_70 : decode cX11_nextDay 70 = .ok (.ifCond .lt 13, 3) := by decide +kernel
theorem dX11_nextDay_73 : decode cX11_nextDay 73 = .ok (.aload_n 0, 1) := by decide +kernel
theorem dX11_nextDay_74 : decode cX11_nextDay 74 = .ok (.getfield 126, 3) := by decide +kernel
theorem dX11_nextDay_77 : decode cX11_nextDay 77 = .ok (.iload_n 3, 1) := by decide +kernel
theorem dX11_nextDay_78 : decode cX11_nextDay 78 = .ok (.iaload, 1) := by decide +kernel
theorem dX11_nextDay_79 : decode cX11_nextDay 79 = .ok (.iload_n 2, 1) := by decide +kernel
theorem dX11_nextDay_80 : decode cX11_nextDay 80 = .ok (.if_icmp .ge 10, 3) := by decide +kernel
theorem dX11_nextDay_83 : decode cX11_nextDay 83 = .ok (.aload_n 0, 1) := by decide +kernel
theorem dX11_nextDay_84 : decode cX11_nextDay 84 = .ok (.getfield 126, 3) := by decide +kernel
theorem dX11_nextDay_87 : decode cX11_nextDay 87 = .ok (.iload_n 3, 1) := by decide +kernel
theorem dX11_nextDay_88 : decode cX11_nextDay 88 = .ok (.iaload, 1) := by decide +kernel
theorem dX11_nextDay_89 : decode cX11_nextDay 89 = .ok (.istore_n 2, 1) := by decide +kernel
theorem dX11_nextDay_90 : decode cX11_nextDay 90 = .ok (.iinc 3 1, 3) := by decide +kernel
theorem dX11_nextDay_93 : decode cX11_nextDay 93 = .ok (.goto (-42), 3) := by decide +kernel
theorem dX11_nextDay_96 : decode cX11_nextDay 96 = .ok (.iload_n 2, 1) := by decide +kernel
theorem dX11_nextDay_97 : decode cX11_nextDay 97 = .ok (.ireturn, 1) := by decide +kernel
theorem dX11_knows_0 : decode cX11_knows 0 = .ok (.iload_n 1, 1) := by decide +kernel
theorem dX11_knows_1 : decode cX11_knows 1 = .ok (.bipush 16, 2) := by decide +kernel
theorem dX11_knows_3 : decode cX11_knows 3 = .ok (.invokestatic 144, 3) := by decide +kernel
theorem dX11_knows_6 : decode cX11_knows 6 = .ok (.ifCond .ne 9, 3) := by decide +kernel
theorem dX11_knows_9 : decode cX11_knows 9 = .ok (.aload_n 0, 1) := by decide +kernel
theorem dX11_knows_10 : decode cX11_knows 10 = .ok (.iconst (-1), 1) := by decide +kernel
theorem dX11_knows_11 : decode cX11_knows 11 = .ok (.invokevirtual 152, 3) := by decide +kernel
theorem dX11_knows_14 : decode cX11_knows 14 = .ok (.ireturn, 1) := by decide +kernel
theorem dX11_knows_15 : decode cX11_knows 15 = .ok (.aload_n 0, 1) := by decide +kernel
theorem dX11_knows_16 : decode cX11_knows 16 = .ok (.iconst (-1), 1) := by decide +kernel
theorem dX11_knows_17 : decode cX11_knows 17 = .ok (.invokevirtual 262, 3) := by decide +kernel
theorem dX11_knows_20 : decode cX11_knows 20 = .ok (.istore_n 2, 1) := by decide +kernel
theorem dX11_knows_21 : decode cX11_knows 21 = .ok (.aload_n 0, 1) := by decide +kernel
theorem dX11_knows_22 : decode cX11_knows 22 = .ok (.getfield 129, 3) := by decide +kernel
theorem dX11_knows_25 : decode cX11_knows 25 = .ok (.iload_n 1, 1) := by decide +kernel
theorem dX11_knows_26 : decode cX11_knows 26 = .ok (.iaload, 1) := by decide +kernel
theorem dX11_knows_27 : decode cX11_knows 27 = .ok (.ireturn, 1) := by decide +kernel
theorem dX11_joined_0 : decode cX11_joined 0 = .ok (.aload_n 0, 1) := by decide +kernel
theorem dX11_joined_1 : decode cX11_joined 1 = .ok (.iconst (-1), 1) := by decide +kernel
theorem dX11_joined_2 : decode cX11_joined 2 = .ok (.invokevirtual 262, 3) := by decide +kernel
theorem dX11_joined_5 : decode cX11_joined 5 = .ok (.ireturn, 1) := by decide +kernel
theorem dX11_leak_0 : decode cX11_leak 0 = .ok (.aload_n 0, 1) := by decide +kernel
theorem dX11_leak_1 : decode cX11_leak 1 = .ok (.iconst (-1), 1) := by decide +kernel
theorem dX11_leak_2 : decode cX11_leak 2 = .ok (.invokevirtual 262, 3) := by decide +kernel
theorem dX11_leak_5 : decode cX11_leak 5 = .ok (.ifCond .ge 6, 3) := by decide +kernel
theorem dX11_leak_8 : decode cX11_leak 8 = .ok (.bipush (-9), 2) := by decide +kernel
theorem dX11_leak_10 : decode cX11_leak 10 = .ok (.ireturn, 1) := by decide +kernel
theorem dX11_leak_11 : decode cX11_leak 11 = .ok (.iconst 0, 1) := by decide +kernel
theorem dX11_leak_12 : decode cX11_leak 12 = .ok (.istore_n 1, 1) := by decide +kernel
theorem dX11_leak_13 : decode cX11_leak 13 = .ok (.iload_n 1, 1) := by decide +kernel
theorem dX11_leak_14 : decode cX11_leak 14 = .ok (.aload_n 0, 1) := by decide +kernel
theorem dX11_leak_15 : decode cX11_leak 15 = .ok (.getfield 256, 3) := by decide +kernel
theorem dX11_leak_18 : decode cX11_leak 18 = .ok (.if_icmp .ge 19, 3) := by decide +kernel
theorem dX11_leak_21 : decode cX11_leak 21 = .ok (.aload_n 0, 1) := by decide +kernel
theorem dX11_leak_22 : decode cX11_leak 22 = .ok (.iload_n 1, 1) := by decide +kernel
theorem dX11_leak_23 : decode cX11_leak 23 = .ok (.invokevirtual 262, 3) := by decide +kernel
theorem dX11_leak_26 : decode cX11_leak 26 = .ok (.ifCond .ge 5, 3) := by decide +kernel
theorem dX11_leak_29 : decode cX11_leak 29 = .ok (.iload_n 1, 1) := by decide +kernel
theorem dX11_leak_30 : decode cX11_leak 30 = .ok (.ireturn, 1) := by decide +kernel
theorem dX11_leak_31 : decode cX11_leak 31 = .ok (.iinc 1 1, 3) := by decide +kernel
theorem dX11_leak_34 : decode cX11_leak 34 = .ok (.goto (-21), 3) := by decide +kernel
theorem dX11_leak_37 : decode cX11_leak 37 = .ok (.bipush (-9), 2) := by decide +kernel
theorem dX11_leak_39 : decode cX11_leak 39 = .ok (.ireturn, 1) := by decide +kernel
theorem dX11_grown_0 : decode cX11_grown 0 = .ok (.ldc2_w 265, 3) := by decide +kernel
theorem dX11_grown_3 : decode cX11_grown 3 = .ok (.iload_n 2, 1) := by decide +kernel
theorem dX11_grown_4 : decode cX11_grown 4 = .ok (.i2l, 1) := by decide +kernel
theorem dX11_grown_5 : decode cX11_grown 5 = .ok (.iload_n 2, 1) := by decide +kernel
theorem dX11_grown_6 : decode cX11_grown 6 = .ok (.i2l, 1) := by decide +kernel
theorem dX11_grown_7 : decode cX11_grown 7 = .ok (.aload_n 0, 1) := by decide +kernel
theorem dX11_grown_8 : decode cX11_grown 8 = .ok (.getfield 138, 3) := by decide +kernel
theorem dX11_grown_11 : decode cX11_grown 11 = .ok (.iload_n 1, 1) := by decide +kernel
theorem dX11_grown_12 : decode cX11_grown 12 = .ok (.iaload, 1) := by decide +kernel
theorem dX11_grown_13 : decode cX11_grown 13 = .ok (.i2l, 1) := by decide +kernel
theorem dX11_grown_14 : decode cX11_grown 14 = .ok (.lmul, 1) := by decide +kernel
theorem dX11_grown_15 : decode cX11_grown 15 = .ok (.ldc2_w 180, 3) := by decide +kernel
theorem dX11_grown_18 : decode cX11_grown 18 = .ok (.ldiv, 1) := by decide +kernel
theorem dX11_grown_19 : decode cX11_grown 19 = .ok (.ladd, 1) := by decide +kernel
theorem dX11_grown_20 : decode cX11_grown 20 = .ok (.invokestatic 267, 3) := by decide +kernel
theorem dX11_grown_23 : decode cX11_grown 23 = .ok (.l2i, 1) := by decide +kernel
theorem dX11_grown_24 : decode cX11_grown 24 = .ok (.ireturn, 1) := by decide +kernel
theorem dX11_debt_0 : decode cX11_debt 0 = .ok (.iload_n 1, 1) := by decide +kernel
theorem dX11_debt_1 : decode cX11_debt 1 = .ok (.ifCond .lt 7, 3) := by decide +kernel
theorem dX11_debt_4 : decode cX11_debt 4 = .ok (.iload_n 2, 1) := by decide +kernel
theorem dX11_debt_5 : decode cX11_debt 5 = .ok (.ifCond .ge 10, 3) := by decide +kernel
theorem dX11_debt_8 : decode cX11_debt 8 = .ok (.aload_n 0, 1) := by decide +kernel
theorem dX11_debt_9 : decode cX11_debt 9 = .ok (.bipush (-4), 2) := by decide +kernel
theorem dX11_debt_11 : decode cX11_debt 11 = .ok (.invokevirtual 152, 3) := by decide +kernel
theorem dX11_debt_14 : decode cX11_debt 14 = .ok (.ireturn, 1) := by decide +kernel
theorem dX11_debt_15 : decode cX11_debt 15 = .ok (.iload_n 1, 1) := by decide +kernel
theorem dX11_debt_16 : decode cX11_debt 16 = .ok (.ldc_w 271, 3) := by decide +kernel
theorem dX11_debt_19 : decode cX11_debt 19 = .ok (.if_icmp .gt 19, 3) := by decide +kernel
theorem dX11_debt_22 : decode cX11_debt 22 = .ok (.iload_n 2, 1) := by decide +kernel
theorem dX11_debt_23 : decode cX11_debt 23 = .ok (.sipush 500, 3) := by decide +kernel
theorem dX11_debt_26 : decode cX11_debt 26 = .ok (.if_icmp .gt 12, 3) := by decide +kernel
theorem dX11_debt_29 : decode cX11_debt 29 = .ok (.aload_n 0, 1) := by decide +kernel
theorem dX11_debt_30 : decode cX11_debt 30 = .ok (.getfield 163, 3) := by decide +kernel
theorem dX11_debt_33 : decode cX11_debt 33 = .ok (.bipush 6, 2) := by decide +kernel
theorem dX11_debt_35 : decode cX11_debt 35 = .ok (.if_icmp .ne 10, 3) := by decide +kernel
theorem dX11_debt_38 : decode cX11_debt 38 = .ok (.aload_n 0, 1) := by decide +kernel
theorem dX11_debt_39 : decode cX11_debt 39 = .ok (.bipush (-6), 2) := by decide +kernel
theorem dX11_debt_41 : decode cX11_debt 41 = .ok (.invokevirtual 152, 3) := by decide +kernel
theorem dX11_debt_44 : decode cX11_debt 44 = .ok (.ireturn, 1) := by decide +kernel
theorem dX11_debt_45 : decode cX11_debt 45 = .ok (.aload_n 0, 1) := by decide +kernel
theorem dX11_debt_46 : decode cX11_debt 46 = .ok (.getfield 135, 3) := by decide +kernel
theorem dX11_debt_49 : decode cX11_debt 49 = .ok (.aload_n 0, 1) := by decide +kernel
theorem dX11_debt_50 : decode cX11_debt 50 = .ok (.getfield 163, 3) := by decide +kernel
theorem dX11_debt_53 : decode cX11_debt 53 = .ok (.iload_n 1, 1) := by decide +kernel
theorem dX11_debt_54 : decode cX11_debt 54 = .ok (.iastore, 1) := by decide +kernel
theorem dX11_debt_55 : decode cX11_debt 55 = .ok (.aload_n 0, 1) := by decide +kernel
theorem dX11_debt_56 : decode cX11_debt 56 = .ok (.getfield 138, 3) := by decide +kernel
theorem dX11_debt_59 : decode cX11_debt 59 = .ok (.aload_n 0, 1) := by decide +kernel
theorem dX11_debt_60 : decode cX11_debt 60 = .ok (.getfield 163, 3) := by decide +kernel
theorem dX11_debt_63 : decode cX11_debt 63 = .ok (.iload_n 2, 1) := by decide +kernel
theorem dX11_debt_64 : decode cX11_debt 64 = .ok (.iastore, 1) := by decide +kernel
theorem dX11_debt_65 : decode cX11_debt 65 = .ok (.aload_n 0, 1) := by decide +kernel
theorem dX11_debt_66 : decode cX11_debt 66 = .ok (.getfield 141, 3) := by decide +kernel
theorem dX11_debt_69 : decode cX11_debt 69 = .ok (.aload_n 0, 1) := by decide +kernel
theorem dX11_debt_70 : decode cX11_debt 70 = .ok (.getfield 163, 3) := by decide +kernel
theorem dX11_debt_73 : decode cX11_debt 73 = .ok (.aload_n 0, 1) := by decide +kernel
theorem dX11_debt_74 : decode cX11_debt 74 = .ok (.getfield 160, 3) := by decide +kernel
theorem dX11_debt_77 : decode cX11_debt 77 = .ok (.iastore, 1) := by decide +kernel
theorem dX11_debt_78 : decode cX11_debt 78 = .ok (.aload_n 0, 1) := by decide +kernel
theorem dX11_debt_79 : decode cX11_debt 79 = .ok (.dup, 1) := by decide +kernel
theorem dX11_debt_80 : decode cX11_debt 80 = .ok (.getfield 163, 3) := by decide +kernel
theorem dX11_debt_83 : decode cX11_debt 83 = .ok (.iconst 1, 1) := by decide +kernel
theorem dX11_debt_84 : decode cX11_debt 84 = .ok (.iadd, 1) := by decide +kernel
theorem dX11_debt_85 : decode cX11_debt 85 = .ok (.putfield 163, 3) := by decide +kernel
theorem dX11_debt_88 : decode cX11_debt 88 = .ok (.aload_n 0, 1) := by decide +kernel
theorem dX11_debt_89 : decode cX11_debt 89 = .ok (.getfield 163, 3) := by decide +kernel
theorem dX11_debt_92 : decode cX11_debt 92 = .ok (.iconst 1, 1) := by decide +kernel
theorem dX11_debt_93 : decode cX11_debt 93 = .ok (.isub, 1) := by decide +kernel
theorem dX11_debt_94 : decode cX11_debt 94 = .ok (.ireturn, 1) := by decide +kernel
theorem dX11_pay_0 : decode cX11_pay 0 = .ok (.iload_n 1, 1) := by decide +kernel
theorem dX11_pay_1 : decode cX11_pay 1 = .ok (.aload_n 0, 1) := by decide +kernel
theorem dX11_pay_2 : decode cX11_pay 2 = .ok (.getfield 163, 3) := by decide +kernel
theorem dX11_pay_5 : decode cX11_pay 5 = .ok (.invokestatic 144, 3) := by decide +kernel
theorem dX11_pay_8 : decode cX11_pay 8 = .ok (.ifCond .eq 23, 3) := by decide +kernel
theorem dX11_pay_11 : decode cX11_pay 11 = .ok (.iload_n 2, 1) := by decide +kernel
theorem dX11_pay_12 : decode cX11_pay 12 = .ok (.iconst 1, 1) := by decide +kernel
theorem dX11_pay_13 : decode cX11_pay 13 = .ok (.ldc_w 271, 3) := by decide +kernel
theorem dX11_pay_16 : decode cX11_pay 16 = .ok (.aload_n 0, 1) := by decide +kernel
theorem dX11_pay_17 : decode cX11_pay 17 = .ok (.getfield 135, 3) := by decide +kernel
theorem dX11_pay_20 : decode cX11_pay 20 = .ok (.iload_n 1, 1) := by decide +kernel
theorem dX11_pay_21 : decode cX11_pay 21 = .ok (.iaload, 1) := by decide +kernel
theorem dX11_pay_22 : decode cX11_pay 22 = .ok (.invokestatic 272, 3) := by decide +kernel
theorem dX11_pay_25 : decode cX11_pay 25 = .ok (.invokestatic 148, 3) := by decide +kernel
theorem dX11_pay_28 : decode cX11_pay 28 = .ok (.goto 4, 3) := by decide +kernel
theorem dX11_pay_31 : decode cX11_pay 31 = .ok (.iconst (-1), 1) := by decide +kernel
theorem dX11_pay_32 : decode cX11_pay 32 = .ok (.istore_n 3, 1) := by decide +kernel
theorem dX11_pay_33 : decode cX11_pay 33 = .ok (.iload_n 3, 1) := by decide +kernel
theorem dX11_pay_34 : decode cX11_pay 34 = .ok (.ifCond .eq 9, 3) := by decide +kernel
theorem dX11_pay_37 : decode cX11_pay 37 = .ok (.aload_n 0, 1) := by decide +kernel
theorem dX11_pay_38 : decode cX11_pay 38 = .ok (.iload_n 3, 1) := by decide +kernel
theorem dX11_pay_39 : decode cX11_pay 39 = .ok (.invokevirtual 152, 3) := by decide +kernel
theorem dX11_pay_42 : decode cX11_pay 42 = .ok (.ireturn, 1) := by decide +kernel
theorem dX11_pay_43 : decode cX11_pay 43 = .ok (.aload_n 0, 1) := by decide +kernel
theorem dX11_pay_44 : decode cX11_pay 44 = .ok (.getfield 135, 3) := by decide +kernel
theorem dX11_pay_47 : decode cX11_pay 47 = .ok (.iload_n 1, 1) := by decide +kernel
theorem dX11_pay_48 : decode cX11_pay 48 = .ok (.dup2, 1) := by decide +kernel
theorem dX11_pay_49 : decode cX11_pay 49 = .ok (.iaload, 1) := by decide +kernel
theorem dX11_pay_50 : decode cX11_pay 50 = .ok (.iload_n 2, 1) := by decide +kernel
theorem dX11_pay_51 : decode cX11_pay 51 = .ok (.isub, 1) := by decide +kernel
theorem dX11_pay_52 : decode cX11_pay 52 = .ok (.iastore, 1) := by decide +kernel
theorem dX11_pay_53 : decode cX11_pay 53 = .ok (.aload_n 0, 1) := by decide +kernel
theorem dX11_pay_54 : decode cX11_pay 54 = .ok (.getfield 135, 3) := by decide +kernel
theorem dX11_pay_57 : decode cX11_pay 57 = .ok (.iload_n 1, 1) := by decide +kernel
theorem dX11_pay_58 : decode cX11_pay 58 = .ok (.iaload, 1) := by decide +kernel
theorem dX11_pay_59 : decode cX11_pay 59 = .ok (.ireturn, 1) := by decide +kernel
theorem dX11_owed_0 : decode cX11_owed 0 = .ok (.iload_n 1, 1) := by decide +kernel
theorem dX11_owed_1 : decode cX11_owed 1 = .ok (.aload_n 0, 1) := by decide +kernel
theorem dX11_owed_2 : decode cX11_owed 2 = .ok (.getfield 163, 3) := by decide +kernel
theorem dX11_owed_5 : decode cX11_owed 5 = .ok (.invokestatic 144, 3) := by decide +kernel
theorem dX11_owed_8 : decode cX11_owed 8 = .ok (.ifCond .eq 14, 3) := by decide +kernel
theorem dX11_owed_11 : decode cX11_owed 11 = .ok (.iload_n 2, 1) := by decide +kernel
theorem dX11_owed_12 : decode cX11_owed 12 = .ok (.iconst 0, 1) := by decide +kernel
theorem dX11_owed_13 : decode cX11_owed 13 = .ok (.sipush 4000, 3) := by decide +kernel
theorem dX11_owed_16 : decode cX11_owed 16 = .ok (.invokestatic 148, 3) := by decide +kernel
theorem dX11_owed_19 : decode cX11_owed 19 = .ok (.goto 4, 3) := by decide +kernel
theorem dX11_owed_22 : decode cX11_owed 22 = .ok (.iconst (-1), 1) := by decide +kernel
theorem dX11_owed_23 : decode cX11_owed 23 = .ok (.istore_n 3, 1) := by decide +kernel
theorem dX11_owed_24 : decode cX11_owed 24 = .ok (.iload_n 3, 1) := by decide +kernel
theorem dX11_owed_25 : decode cX11_owed 25 = .ok (.ifCond .eq 9, 3) := by decide +kernel
theorem dX11_owed_28 : decode cX11_owed 28 = .ok (.aload_n 0, 1) := by decide +kernel
theorem dX11_owed_29 : decode cX11_owed 29 = .ok (.iload_n 3, 1) := by decide +kernel
theorem dX11_owed_30 : decode cX11_owed 30 = .ok (.invokevirtual 152, 3) := by decide +kernel
theorem dX11_owed_33 : decode cX11_owed 33 = .ok (.ireturn, 1) := by decide +kernel
theorem dX11_owed_34 : decode cX11_owed 34 = .ok (.aload_n 0, 1) := by decide +kernel
theorem dX11_owed_35 : decode cX11_owed 35 = .ok (.getfield 135, 3) := by decide +kernel
theorem dX11_owed_38 : decode cX11_owed 38 = .ok (.iload_n 1, 1) := by decide +kernel
theorem dX11_owed_39 : decode cX11_owed 39 = .ok (.iaload, 1) := by decide +kernel
theorem dX11_owed_40 : decode cX11_owed 40 = .ok (.istore 4, 2) := by decide +kernel
theorem dX11_owed_42 : decode cX11_owed 42 = .ok (.aload_n 0, 1) := by decide +kernel
theorem dX11_owed_43 : decode cX11_owed 43 = .ok (.getfield 160, 3) := by decide +kernel
theorem dX11_owed_46 : decode cX11_owed 46 = .ok (.iconst 1, 1) := by decide +kernel
theorem dX11_owed_47 : decode cX11_owed 47 = .ok (.iadd, 1) := by decide +kernel
theorem dX11_owed_48 : decode cX11_owed 48 = .ok (.istore 5, 2) := by decide +kernel
theorem dX11_owed_50 : decode cX11_owed 50 = .ok (.iload 5, 2) := by decide +kernel
theorem dX11_owed_52 : decode cX11_owed 52 = .ok (.aload_n 0, 1) := by decide +kernel
theorem dX11_owed_53 : decode cX11_owed 53 = .ok (.getfield 160, 3) := by decide +kernel
theorem dX11_owed_56 : decode cX11_owed 56 = .ok (.iload_n 2, 1) := by decide +kernel
theorem dX11_owed_57 : decode cX11_owed 57 = .ok (.iadd, 1) := by decide +kernel
theorem dX11_owed_58 : decode cX11_owed 58 = .ok (.if_icmp .gt 33, 3) := by decide +kernel
theorem dX11_owed_61 : decode cX11_owed 61 = .ok (.iload 5, 2) := by decide +kernel
theorem dX11_owed_63 : decode cX11_owed 63 = .ok (.aload_n 0, 1) := by decide +kernel
theorem dX11_owed_64 : decode cX11_owed 64 = .ok (.getfield 141, 3) := by decide +kernel
theorem dX11_owed_67 : decode cX11_owed 67 = .ok (.iload_n 1, 1) := by decide +kernel
theorem dX11_owed_68 : decode cX11_owed 68 = .ok (.iaload, 1) := by decide +kernel
theorem dX11_owed_69 : decode cX11_owed 69 = .ok (.isub, 1) := by decide +kernel
theorem dX11_owed_70 : decode cX11_owed 70 = .ok (.bipush 30, 2) := by decide +kernel
theorem dX11_owed_72 : decode cX11_owed 72 = .ok (.irem, 1) := by decide +kernel
theorem dX11_owed_73 : decode cX11_owed 73 = .ok (.ifCond .ne 12, 3) := by decide +kernel
theorem dX11_owed_76 : decode cX11_owed 76 = .ok (.aload_n 0, 1) := by decide +kernel
theorem dX11_owed_77 : decode cX11_owed 77 = .ok (.iload_n 1, 1) := by decide +kernel
theorem dX11_owed_78 : decode cX11_owed 78 = .ok (.iload 4, 2) := by decide +kernel
theorem dX11_owed_80 : decode cX11_owed 80 = .ok (.invokevirtual 166, 3) := by decide +kernel
theorem dX11_owed_83 : decode cX11_owed 83 = .ok (.istore 4, 2) := by decide +kernel
theorem dX11_owed_85 : decode cX11_owed 85 = .ok (.iinc 5 1, 3) := by decide +kernel
theorem dX11_owed_88 : decode cX11_owed 88 = .ok (.goto (-38), 3) := by decide +kernel
theorem dX11_owed_91 : decode cX11_owed 91 = .ok (.iload 4, 2) := by decide +kernel
theorem dX11_owed_93 : decode cX11_owed 93 = .ok (.ireturn, 1) := by decide +kernel
theorem dX11_pieceOf_0 : decode cX11_pieceOf 0 = .ok (.aload_n 0, 1) := by decide +kernel
theorem dX11_pieceOf_1 : decode cX11_pieceOf 1 = .ok (.iload_n 1, 1) := by decide +kernel
theorem dX11_pieceOf_2 : decode cX11_pieceOf 2 = .ok (.invokevirtual 190, 3) := by decide +kernel
theorem dX11_pieceOf_5 : decode cX11_pieceOf 5 = .ok (.ifCond .ne 9, 3) := by decide +kernel
theorem dX11_pieceOf_8 : decode cX11_pieceOf 8 = .ok (.aload_n 0, 1) := by decide +kernel
theorem dX11_pieceOf_9 : decode cX11_pieceOf 9 = .ok (.iconst (-1), 1) := by decide +kernel
theorem dX11_pieceOf_10 : decode cX11_pieceOf 10 = .ok (.invokevirtual 152, 3) := by decide +kernel
theorem dX11_pieceOf_13 : decode cX11_pieceOf 13 = .ok (.ireturn, 1) := by decide +kernel
theorem dX11_pieceOf_14 : decode cX11_pieceOf 14 = .ok (.iload_n 2, 1) := by decide +kernel
theorem dX11_pieceOf_15 : decode cX11_pieceOf 15 = .ok (.tableswitch 95 0 6 #[41, 48, 55, 62, 74, 81, 88], 41) := by decide +kernel
theorem dX11_pieceOf_56 : decode cX11_pieceOf 56 = .ok (.aload_n 0, 1) := by decide +kernel
theorem dX11_pieceOf_57 : decode cX11_pieceOf 57 = .ok (.getfield 34, 3) := by decide +kernel
theorem dX11_pieceOf_60 : decode cX11_pieceOf 60 = .ok (.iload_n 1, 1) := by decide +kernel
theorem dX11_pieceOf_61 : decode cX11_pieceOf 61 = .ok (.iaload, 1) := by decide +kernel
theorem dX11_pieceOf_62 : decode cX11_pieceOf 62 = .ok (.ireturn, 1) := by decide +kernel
theorem dX11_pieceOf_63 : decode cX11_pieceOf 63 = .ok (.aload_n 0, 1) := by decide +kernel
theorem dX11_pieceOf_64 : decode cX11_pieceOf 64 = .ok (.getfield 28, 3) := by decide +kernel
theorem dX11_pieceOf_67 : decode cX11_pieceOf 67 = .ok (.iload_n 1, 1) := by decide +kernel
theorem dX11_pieceOf_68 : decode cX11_pieceOf 68 = .ok (.iaload, 1) := by decide +kernel
theorem dX11_pieceOf_69 : decode cX11_pieceOf 69 = .ok (.ireturn, 1) := by decide +kernel
theorem dX11_pieceOf_70 : decode cX11_pieceOf 70 = .ok (.aload_n 0, 1) := by decide +kernel
theorem dX11_pieceOf_71 : decode cX11_pieceOf 71 = .ok (.getfield 31, 3) := by decide +kernel
theorem dX11_pieceOf_74 : decode cX11_pieceOf 74 = .ok (.iload_n 1, 1) := by decide +kernel
theorem dX11_pieceOf_75 : decode cX11_pieceOf 75 = .ok (.iaload, 1) := by decide +kernel
theorem dX11_pieceOf_76 : decode cX11_pieceOf 76 = .ok (.ireturn, 1) := by decide +kernel
theorem dX11_pieceOf_77 : decode cX11_pieceOf 77 = .ok (.aload_n 0, 1) := by decide +kernel
theorem dX11_pieceOf_78 : decode cX11_pieceOf 78 = .ok (.getfield 16, 3) := by decide +kernel
theorem dX11_pieceOf_81 : decode cX11_pieceOf 81 = .ok (.aload_n 0, 1) := by decide +kernel
theorem dX11_pieceOf_82 : decode cX11_pieceOf 82 = .ok (.getfield 25, 3) := by decide +kernel
theorem dX11_pieceOf_85 : decode cX11_pieceOf 85 = .ok (.iload_n 1, 1) := by decide +kernel
theorem dX11_pieceOf_86 : decode cX11_pieceOf 86 = .ok (.iaload, 1) := by decide +kernel
theorem dX11_pieceOf_87 : decode cX11_pieceOf 87 = .ok (.iaload, 1) := by decide +kernel
theorem dX11_pieceOf_88 : decode cX11_pieceOf 88 = .ok (.ireturn, 1) := by decide +kernel
theorem dX11_pieceOf_89 : decode cX11_pieceOf 89 = .ok (.aload_n 0, 1) := by decide +kernel
theorem dX11_pieceOf_90 : decode cX11_pieceOf 90 = .ok (.getfield 37, 3) := by decide +kernel
theorem dX11_pieceOf_93 : decode cX11_pieceOf 93 = .ok (.iload_n 1, 1) := by decide +kernel
theorem dX11_pieceOf_94 : decode cX11_pieceOf 94 = .ok (.iaload, 1) := by decide +kernel
theorem dX11_pieceOf_95 : decode cX11_pieceOf 95 = .ok (.ireturn, 1) := by decide +kernel
theorem dX11_pieceOf_96 : decode cX11_pieceOf 96 = .ok (.aload_n 0, 1) := by decide +kernel
theorem dX11_pieceOf_97 : decode cX11_pieceOf 97 = .ok (.getfield 40, 3) := by decide +kernel
theorem dX11_pieceOf_100 : decode cX11_pieceOf 100 = .ok (.iload_n 1, 1) := by decide +kernel
theorem dX11_pieceOf_101 : decode cX11_pieceOf 101 = .ok (.iaload, 1) := by decide +kernel
theorem dX11_pieceOf_102 : decode cX11_pieceOf 102 = .ok (.ireturn, 1) := by decide +kernel
theorem dX11_pieceOf_103 : decode cX11_pieceOf 103 = .ok (.aload_n 0, 1) := by decide +kernel
theorem dX11_pieceOf_104 : decode cX11_pieceOf 104 = .ok (.getfield 43, 3) := by decide +kernel
theorem dX11_pieceOf_107 : decode cX11_pieceOf 107 = .ok (.iload_n 1, 1) := by decide +kernel
theorem dX11_pieceOf_108 : decode cX11_pieceOf 108 = .ok (.iaload, 1) := by decide +kernel
theorem dX11_pieceOf_109 : decode cX11_pieceOf 109 = .ok (.ireturn, 1) := by decide +kernel
theorem dX11_pieceOf_110 : decode cX11_pieceOf 110 = .ok (.aload_n 0, 1) := by decide +kernel
theorem dX11_pieceOf_111 : decode cX11_pieceOf 111 = .ok (.bipush (-2), 2) := by decide +kernel
theorem dX11_pieceOf_113 : decode cX11_pieceOf 113 = .ok (.invokevirtual 152, 3) := by decide +kernel
theorem dX11_pieceOf_116 : decode cX11_pieceOf 116 = .ok (.ireturn, 1) := by decide +kernel
theorem dX11_count_0 : decode cX11_count 0 = .ok (.iload_n 1, 1) := by decide +kernel
theorem dX11_count_1 : decode cX11_count 1 = .ok (.bipush 10, 2) := by decide +kernel
theorem dX11_count_3 : decode cX11_count 3 = .ok (.if_icmp .le 19, 3) := by decide +kernel
theorem dX11_count_6 : decode cX11_count 6 = .ok (.iload_n 1, 1) := by decide +kernel
theorem dX11_count_7 : decode cX11_count 7 = .ok (.bipush 17, 2) := by decide +kernel
theorem dX11_count_9 : decode cX11_count 9 = .ok (.if_icmp .ge 13, 3) := by decide +kernel
theorem dX11_count_12 : decode cX11_count 12 = .ok (.aload_n 0, 1) := by decide +kernel
theorem dX11_count_13 : decode cX11_count 13 = .ok (.getfield 7, 3) := by decide +kernel
theorem dX11_count_16 : decode cX11_count 16 = .ok (.iload_n 1, 1) := by decide +kernel
theorem dX11_count_17 : decode cX11_count 17 = .ok (.bipush 10, 2) := by decide +kernel
theorem dX11_count_19 : decode cX11_count 19 = .ok (.isub, 1) := by decide +kernel
theorem dX11_count_20 : decode cX11_count 20 = .ok (.iaload, 1) := by decide +kernel
theorem dX11_count_21 : decode cX11_count 21 = .ok (.ireturn, 1) := by decide +kernel
theorem dX11_count_22 : decode cX11_count 22 = .ok (.iload_n 1, 1) := by decide +kernel
theorem dX11_count_23 : decode cX11_count 23 = .ok (.bipush 20, 2) := by decide +kernel
theorem dX11_count_25 : decode cX11_count 25 = .ok (.isub, 1) := by decide +kernel
theorem dX11_count_26 : decode cX11_count 26 = .ok (.aload_n 0, 1) := by decide +kernel
theorem dX11_count_27 : decode cX11_count 27 = .ok (.getfield 156, 3) := by decide +kernel
theorem dX11_count_30 : decode cX11_count 30 = .ok (.invokestatic 144, 3) := by decide +kernel
theorem dX11_count_33 : decode cX11_count 33 = .ok (.ifCond .eq 13, 3) := by decide +kernel
theorem dX11_count_36 : decode cX11_count 36 = .ok (.aload_n 0, 1) := by decide +kernel
theorem dX11_count_37 : decode cX11_count 37 = .ok (.getfield 19, 3) := by decide +kernel
theorem dX11_count_40 : decode cX11_count 40 = .ok (.iload_n 1, 1) := by decide +kernel
theorem dX11_count_41 : decode cX11_count 41 = .ok (.bipush 20, 2) := by decide +kernel
theorem dX11_count_43 : decode cX11_count 43 = .ok (.isub, 1) := by decide +kernel
theorem dX11_count_44 : decode cX11_count 44 = .ok (.iaload, 1) := by decide +kernel
theorem dX11_count_45 : decode cX11_count 45 = .ok (.ireturn, 1) := by decide +kernel
theorem dX11_count_46 : decode cX11_count 46 = .ok (.iconst 0, 1) := by decide +kernel
theorem dX11_count_47 : decode cX11_count 47 = .ok (.istore_n 2, 1) := by decide +kernel
theorem dX11_count_48 : decode cX11_count 48 = .ok (.iload_n 1, 1) := by decide +kernel
theorem dX11_count_49 : decode cX11_count 49 = .ok (.tableswitch 127 0 10 #[59, 64, 69, 74, 74, 74, 74, 74, 112, 117, 122], 59) := by decide +kernel
theorem dX11_count_108 : decode cX11_count 108 = .ok (.aload_n 0, 1) := by decide +kernel
theorem dX11_count_109 : decode cX11_count 109 = .ok (.getfield 160, 3) := by decide +kernel
theorem dX11_count_112 : decode cX11_count 112 = .ok (.ireturn, 1) := by decide +kernel
theorem dX11_count_113 : decode cX11_count 113 = .ok (.aload_n 0, 1) := by decide +kernel
theorem dX11_count_114 : decode cX11_count 114 = .ok (.getfield 156, 3) := by decide +kernel
theorem dX11_count_117 : decode cX11_count 117 = .ok (.ireturn, 1) := by decide +kernel
theorem dX11_count_118 : decode cX11_count 118 = .ok (.aload_n 0, 1) := by decide +kernel
theorem dX11_count_119 : decode cX11_count 119 = .ok (.getfield 174, 3) := by decide +kernel
theorem dX11_count_122 : decode cX11_count 122 = .ok (.ireturn, 1) := by decide +kernel
theorem dX11_count_123 : decode cX11_count 123 = .ok (.iconst 0, 1) := by decide +kernel
theorem dX11_count_124 : decode cX11_count 124 = .ok (.istore_n 3, 1) := by decide +kernel
theorem dX11_count_125 : decode cX11_count 125 = .ok (.iload_n 3, 1) := by decide +kernel
theorem dX11_count_126 : decode cX11_count 126 = .ok (.aload_n 0, 1) := by decide +kernel
theorem dX11_count_127 : decode cX11_count 127 = .ok (.getfield 174, 3) := by decide +kernel
theorem dX11_count_130 : decode cX11_count 130 = .ok (.if_icmp .ge 29, 3) := by decide +kernel
theorem dX11_count_133 : decode cX11_count 133 = .ok (.iload_n 2, 1) := by decide +kernel
theorem dX11_count_134 : decode cX11_count 134 = .ok (.aload_n 0, 1) := by decide +kernel
theorem dX11_count_135 : decode cX11_count 135 = .ok (.getfield 34, 3) := by decide +kernel
theorem dX11_count_138 : decode cX11_count 138 = .ok (.iload_n 3, 1) := by decide +kernel
theorem dX11_count_139 : decode cX11_count 139 = .ok (.iaload, 1) := by decide +kernel
theorem dX11_count_140 : decode cX11_count 140 = .ok (.iload_n 1, 1) := by decide +kernel
theorem dX11_count_141 : decode cX11_count 141 = .ok (.iconst 3, 1) := by decide +kernel
theorem dX11_count_142 : decode cX11_count 142 = .ok (.isub, 1) := by decide +kernel
theorem dX11_count_143 : decode cX11_count 143 = .ok (.if_icmp .ne 7, 3) := by decide +kernel
theorem dX11_count_146 : decode cX11_count 146 = .ok (.iconst 1, 1) := by decide +kernel
theorem dX11_count_147 : decode cX11_count 147 = .ok (.goto 4, 3) := by decide +kernel
theorem dX11_count_150 : decode cX11_count 150 = .ok (.iconst 0, 1) := by decide +kernel
theorem dX11_count_151 : decode cX11_count 151 = .ok (.iadd, 1) := by decide +kernel
theorem dX11_count_152 : decode cX11_count 152 = .ok (.istore_n 2, 1) := by decide +kernel
theorem dX11_count_153 : decode cX11_count 153 = .ok (.iinc 3 1, 3) := by decide +kernel
theorem dX11_count_156 : decode cX11_count 156 = .ok (.goto (-31), 3) := by decide +kernel
theorem dX11_count_159 : decode cX11_count 159 = .ok (.iload_n 2, 1) := by decide +kernel
theorem dX11_count_160 : decode cX11_count 160 = .ok (.ireturn, 1) := by decide +kernel
theorem dX11_count_161 : decode cX11_count 161 = .ok (.aload_n 0, 1) := by decide +kernel
theorem dX11_count_162 : decode cX11_count 162 = .ok (.getfield 177, 3) := by decide +kernel
theorem dX11_count_165 : decode cX11_count 165 = .ok (.ireturn, 1) := by decide +kernel
theorem dX11_count_166 : decode cX11_count 166 = .ok (.aload_n 0, 1) := by decide +kernel
theorem dX11_count_167 : decode cX11_count 167 = .ok (.getfield 209, 3) := by decide +kernel
theorem dX11_count_170 : decode cX11_count 170 = .ok (.ireturn, 1) := by decide +kernel
theorem dX11_count_171 : decode cX11_count 171 = .ok (.aload_n 0, 1) := by decide +kernel
theorem dX11_count_172 : decode cX11_count 172 = .ok (.getfield 256, 3) := by decide +kernel
theorem dX11_count_175 : decode cX11_count 175 = .ok (.ireturn, 1) := by decide +kernel
theorem dX11_count_176 : decode cX11_count 176 = .ok (.bipush (-9), 2) := by decide +kernel
theorem dX11_count_178 : decode cX11_count 178 = .ok (.ireturn, 1) := by decide +kernel
end
section
theorem dL_law_0 : decode cL_law 0 = .ok (.new 7, 3) := by decide +kernel
theorem dL_law_3 : decode cL_law 3 = .ok (.dup, 1) := by decide +kernel
theorem dL_law_4 : decode cL_law 4 = .ok (.invokespecial 9, 3) := by decide +kernel
theorem dL_law_7 : decode cL_law 7 = .ok (.astore_n 1, 1) := by decide +kernel
theorem dL_law_8 : decode cL_law 8 = .ok (.new 10, 3) := by decide +kernel
theorem dL_law_11 : decode cL_law 11 = .ok (.dup, 1) := by decide +kernel
theorem dL_law_12 : decode cL_law 12 = .ok (.invokespecial 12, 3) := by decide +kernel
theorem dL_law_15 : decode cL_law 15 = .ok (.astore_n 2, 1) := by decide +kernel
theorem dL_law_16 : decode cL_law 16 = .ok (.iconst 0, 1) := by decide +kernel
theorem dL_law_17 : decode cL_law 17 = .ok (.istore_n 3, 1) := by decide +kernel
theorem dL_law_18 : decode cL_law 18 = .ok (.iload_n 3, 1) := by decide +kernel
theorem dL_law_19 : decode cL_law 19 = .ok (.aload_n 0, 1) := by decide +kernel
theorem dL_law_20 : decode cL_law 20 = .ok (.arraylength, 1) := by decide +kernel
theorem dL_law_21 : decode cL_law 21 = .ok (.iconst 5, 1) := by decide +kernel
theorem dL_law_22 : decode cL_law 22 = .ok (.isub, 1) := by decide +kernel
theorem dL_law_23 : decode cL_law 23 = .ok (.if_icmp .gt 1334, 3) := by decide +kernel
theorem dL_law_26 : decode cL_law 26 = .ok (.aload_n 0, 1) := by decide +kernel
theorem dL_law_27 : decode cL_law 27 = .ok (.iload_n 3, 1) := by decide +kernel
theorem dL_law_28 : decode cL_law 28 = .ok (.iaload, 1) := by decide +kernel
theorem dL_law_29 : decode cL_law 29 = .ok (.bipush 63, 2) := by decide +kernel
theorem dL_law_31 : decode cL_law 31 = .ok (.iand, 1) := by decide +kernel
theorem dL_law_32 : decode cL_law 32 = .ok (.tableswitch 1319 0 38 #[172, 215, 248, 271, 324, 367, 390, 403, 426, 459, 492, 515, 528, 561, 574, 597, 610, 653, 676, 709, 742, 765, 778, 801, 824, 867, 920, 963, 1006, 1049, 1082, 1115, 1138, 1151, 1164, 1197, 1230, 1263, 1296], 172) := by decide +kernel
theorem dL_law_204 : decode cL_law 204 = .ok (.aload_n 1, 1) := by decide +kernel
theorem dL_law_205 : decode cL_law 205 = .ok (.aload_n 0, 1) := by decide +kernel
theorem dL_law_206 : decode cL_law 206 = .ok (.iload_n 3, 1) := by decide +kernel
theorem dL_law_207 : decode cL_law 207 = .ok (.iconst 1, 1) := by decide +kernel
theorem dL_law_208 : decode cL_law 208 = .ok (.iadd, 1) := by decide +kernel
theorem dL_law_209 : decode cL_law 209 = .ok (.iaload, 1) := by decide +kernel
theorem dL_law_210 : decode cL_law 210 = .ok (.aload_n 0, 1) := by decide +kernel
theorem dL_law_211 : decode cL_law 211 = .ok (.iload_n 3, 1) := by decide +kernel
theorem dL_law_212 : decode cL_law 212 = .ok (.iconst 2, 1) := by decide +kernel
theorem dL_law_213 : decode cL_law 213 = .ok (.iadd, 1) := by decide +kernel
theorem dL_law_214 : decode cL_law 214 = .ok (.iaload, 1) := by decide +kernel
theorem dL_law_215 : decode cL_law 215 = .ok (.aload_n 0, 1) := by decide +kernel
theorem dL_law_216 : decode cL_law 216 = .ok (.iload_n 3, 1) := by decide +kernel
theorem dL_law_217 : decode cL_law 217 = .ok (.iconst 3, 1) := by decide +kernel
theorem dL_law_218 : decode cL_law 218 = .ok (.iadd, 1) := by decide +kernel
theorem dL_law_219 : decode cL_law 219 = .ok (.iaload, 1) := by decide +kernel
theorem dL_law_220 : decode cL_law 220 = .ok (.invokevirtual 13, 3) := by decide +kernel
theorem dL_law_223 : decode cL_law 223 = .ok (.aload_n 2, 1) := by decide +kernel
theorem dL_law_224 : decode cL_law 224 = .ok (.aload_n 0, 1) := by decide +kernel
theorem dL_law_225 : decode cL_law 225 = .ok (.iload_n 3, 1) := by decide +kernel
theorem dL_law_226 : decode cL_law 226 = .ok (.iconst 1, 1) := by decide +kernel
theorem dL_law_227 : decode cL_law 227 = .ok (.iadd, 1) := by decide +kernel
theorem dL_law_228 : decode cL_law 228 = .ok (.iaload, 1) := by decide +kernel
theorem dL_law_229 : decode cL_law 229 = .ok (.aload_n 0, 1) := by decide +kernel
theorem dL_law_230 : decode cL_law 230 = .ok (.iload_n 3, 1) := by decide +kernel
theorem dL_law_231 : decode cL_law 231 = .ok (.iconst 2, 1) := by decide +kernel
theorem dL_law_232 : decode cL_law 232 = .ok (.iadd, 1) := by decide +kernel
theorem dL_law_233 : decode cL_law 233 = .ok (.iaload, 1) := by decide +kernel
theorem dL_law_234 : decode cL_law 234 = .ok (.aload_n 0, 1) := by decide +kernel
theorem dL_law_235 : decode cL_law 235 = .ok (.iload_n 3, 1) := by decide +kernel
theorem dL_law_236 : decode cL_law 236 = .ok (.iconst 3, 1) := by decide +kernel
theorem dL_law_237 : decode cL_law 237 = .ok (.iadd, 1) := by decide +kernel
theorem dL_law_238 : decode cL_law 238 = .ok (.iaload, 1) := by decide +kernel
theorem dL_law_239 : decode cL_law 239 = .ok (.invokevirtual 17, 3) := by decide +kernel
theorem dL_law_242 : decode cL_law 242 = .ok (.if_icmp .eq 1109, 3) := by decide +kernel
theorem dL_law_245 : decode cL_law 245 = .ok (.iconst 0, 1) := by decide +kernel
theorem dL_law_246 : decode cL_law 246 = .ok (.ireturn, 1) := by decide +kernel
theorem dL_law_247 : decode cL_law 247 = .ok (.aload_n 1, 1) := by decide +kernel
theorem dL_law_248 : decode cL_law 248 = .ok (.aload_n 0, 1) := by decide +kernel
theorem dL_law_249 : decode cL_law 249 = .ok (.iload_n 3, 1) := by decide +kernel
theorem dL_law_250 : decode cL_law 250 = .ok (.iconst 1, 1) := by decide +kernel
theorem dL_law_251 : decode cL_law 251 = .ok (.iadd, 1) := by decide +kernel
theorem dL_law_252 : decode cL_law 252 = .ok (.iaload, 1) := by decide +kernel
theorem dL_law_253 : decode cL_law 253 = .ok (.aload_n 0, 1) := by decide +kernel
theorem dL_law_254 : decode cL_law 254 = .ok (.iload_n 3, 1) := by decide +kernel
theorem dL_law_255 : decode cL_law 255 = .ok (.iconst 2, 1) := by decide +kernel
theorem dL_law_256 : decode cL_law 256 = .ok (.iadd, 1) := by decide +kernel
theorem dL_law_257 : decode cL_law 257 = .ok (.iaload, 1) := by decide +kernel
theorem dL_law_258 : decode cL_law 258 = .ok (.invokevirtual 18, 3) := by decide +kernel
theorem dL_law_261 : decode cL_law 261 = .ok (.aload_n 2, 1) := by decide +kernel
theorem dL_law_262 : decode cL_law 262 = .ok (.aload_n 0, 1) := by decide +kernel
theorem dL_law_263 : decode cL_law 263 = .ok (.iload_n 3, 1) := by decide +kernel
theorem dL_law_264 : decode cL_law 264 = .ok (.iconst 1, 1) := by decide +kernel
theorem dL_law_265 : decode cL_law 265 = .ok (.iadd, 1) := by decide +kernel
theorem dL_law_266 : decode cL_law 266 = .ok (.iaload, 1) := by decide +kernel
theorem dL_law_267 : decode cL_law 267 = .ok (.aload_n 0, 1) := by decide +kernel
theorem dL_law_268 : decode cL_law 268 = .ok (.iload_n 3, 1) := by decide +kernel
theorem dL_law_269 : decode cL_law 269 = .ok (.iconst 2, 1) := by decide +kernel
theorem dL_law_270 : decode cL_law 270 = .ok (.iadd, 1) := by decide +kernel
theorem dL_law_271 : decode cL_law 271 = .ok (.iaload, 1) := by decide +kernel
theorem dL_law_272 : decode cL_law 272 = .ok (.invokevirtual 22, 3) := by decide +kernel
theorem dL_law_275 : decode cL_law 275 = .ok (.if_icmp .eq 1076, 3) := by decide +kernel
theorem dL_law_278 : decode cL_law 278 = .ok (.iconst 0, 1) := by decide +kernel
theorem dL_law_279 : decode cL_law 279 = .ok (.ireturn, 1) := by decide +kernel
theorem dL_law_280 : decode cL_law 280 = .ok (.aload_n 1, 1) := by decide +kernel
theorem dL_law_281 : decode cL_law 281 = .ok (.aload_n 0, 1) := by decide +kernel
theorem dL_law_282 : decode cL_law 282 = .ok (.iload_n 3, 1) := by decide +kernel
theorem dL_law_283 : decode cL_law 283 = .ok (.iconst 1, 1) := by decide +kernel
theorem dL_law_284 : decode cL_law 284 = .ok (.iadd, 1) := by decide +kernel
theorem dL_law_285 : decode cL_law 285 = .ok (.iaload, 1) := by decide +kernel
theorem dL_law_286 : decode cL_law 286 = .ok (.invokevirtual 23, 3) := by decide +kernel
theorem dL_law_289 : decode cL_law 289 = .ok (.aload_n 2, 1) := by decide +kernel
theorem dL_law_290 : decode cL_law 290 = .ok (.aload_n 0, 1) := by decide +kernel
theorem dL_law_291 : decode cL_law 291 = .ok (.iload_n 3, 1) := by decide +kernel
theorem dL_law_292 : decode cL_law 292 = .ok (.iconst 1, 1) := by decide +kernel
theorem dL_law_293 : decode cL_law 293 = .ok (.iadd, 1) := by decide +kernel
theorem dL_law_294 : decode cL_law 294 = .ok (.iaload, 1) := by decide +kernel
theorem dL_law_295 : decode cL_law 295 = .ok (.invokevirtual 27, 3) := by decide +kernel
theorem dL_law_298 : decode cL_law 298 = .ok (.if_icmp .eq 1053, 3) := by decide +kernel
theorem dL_law_301 : decode cL_law 301 = .ok (.iconst 0, 1) := by decide +kernel
theorem dL_law_302 : decode cL_law 302 = .ok (.ireturn, 1) := by decide +kernel
theorem dL_law_303 : decode cL_law 303 = .ok (.aload_n 1, 1) := by decide +kernel
theorem dL_law_304 : decode cL_law 304 = .ok (.aload_n 0, 1) := by decide +kernel
theorem dL_law_305 : decode cL_law 305 = .ok (.iload_n 3, 1) := by decide +kernel
theorem dL_law_306 : decode cL_law 306 = .ok (.iconst 1, 1) := by decide +kernel
theorem dL_law_307 : decode cL_law 307 = .ok (.iadd, 1) := by decide +kernel
theorem dL_law_308 : decode cL_law 308 = .ok (.iaload, 1) := by decide +kernel
theorem dL_law_309 : decode cL_law 309 = .ok (.aload_n 0, 1) := by decide +kernel
theorem dL_law_310 : decode cL_law 310 = .ok (.iload_n 3, 1) := by decide +kernel
theorem dL_law_311 : decode cL_law 311 = .ok (.iconst 2, 1) := by decide +kernel
theorem dL_law_312 : decode cL_law 312 = .ok (.iadd, 1) := by decide +kernel
theorem dL_law_313 : decode cL_law 313 = .ok (.iaload, 1) := by decide +kernel
theorem dL_law_314 : decode cL_law 314 = .ok (.aload_n 0, 1) := by decide +kernel
theorem dL_law_315 : decode cL_law 315 = .ok (.iload_n 3, 1) := by decide +kernel
theorem dL_law_316 : decode cL_law 316 = .ok (.iconst 3, 1) := by decide +kernel
theorem dL_law_317 : decode cL_law 317 = .ok (.iadd, 1) := by decide +kernel
theorem dL_law_318 : decode cL_law 318 = .ok (.iaload, 1) := by decide +kernel
theorem dL_law_319 : decode cL_law 319 = .ok (.aload_n 0, 1) := by decide +kernel
theorem dL_law_320 : decode cL_law 320 = .ok (.iload_n 3, 1) := by decide +kernel
theorem dL_law_321 : decode cL_law 321 = .ok (.iconst 4, 1) := by decide +kernel
theorem dL_law_322 : decode cL_law 322 = .ok (.iadd, 1) := by decide +kernel
theorem dL_law_323 : decode cL_law 323 = .ok (.iaload, 1) := by decide +kernel
theorem dL_law_324 : decode cL_law 324 = .ok (.invokevirtual 28, 3) := by decide +kernel
theorem dL_law_327 : decode cL_law 327 = .ok (.aload_n 2, 1) := by decide +kernel
theorem dL_law_328 : decode cL_law 328 = .ok (.aload_n 0, 1) := by decide +kernel
theorem dL_law_329 : decode cL_law 329 = .ok (.iload_n 3, 1) := by decide +kernel
theorem dL_law_330 : decode cL_law 330 = .ok (.iconst 1, 1) := by decide +kernel
theorem dL_law_331 : decode cL_law 331 = .ok (.iadd, 1) := by decide +kernel
theorem dL_law_332 : decode cL_law 332 = .ok (.iaload, 1) := by decide +kernel
theorem dL_law_333 : decode cL_law 333 = .ok (.aload_n 0, 1) := by decide +kernel
theorem dL_law_334 : decode cL_law 334 = .ok (.iload_n 3, 1) := by decide +kernel
theorem dL_law_335 : decode cL_law 335 = .ok (.iconst 2, 1) := by decide +kernel
theorem dL_law_336 : decode cL_law 336 = .ok (.iadd, 1) := by decide +kernel
theorem dL_law_337 : decode cL_law 337 = .ok (.iaload, 1) := by decide +kernel
theorem dL_law_338 : decode cL_law 338 = .ok (.aload_n 0, 1) := by decide +kernel
theorem dL_law_339 : decode cL_law 339 = .ok (.iload_n 3, 1) := by decide +kernel
theorem dL_law_340 : decode cL_law 340 = .ok (.iconst 3, 1) := by decide +kernel
theorem dL_law_341 : decode cL_law 341 = .ok (.iadd, 1) := by decide +kernel
theorem dL_law_342 : decode cL_law 342 = .ok (.iaload, 1) := by decide +kernel
theorem dL_law_343 : decode cL_law 343 = .ok (.aload_n 0, 1) := by decide +kernel
theorem dL_law_344 : decode cL_law 344 = .ok (.iload_n 3, 1) := by decide +kernel
theorem dL_law_345 : decode cL_law 345 = .ok (.iconst 4, 1) := by decide +kernel
theorem dL_law_346 : decode cL_law 346 = .ok (.iadd, 1) := by decide +kernel
theorem dL_law_347 : decode cL_law 347 = .ok (.iaload, 1) := by decide +kernel
theorem dL_law_348 : decode cL_law 348 = .ok (.invokevirtual 32, 3) := by decide +kernel
theorem dL_law_351 : decode cL_law 351 = .ok (.if_icmp .eq 1000, 3) := by decide +kernel
theorem dL_law_354 : decode cL_law 354 = .ok (.iconst 0, 1) := by decide +kernel
theorem dL_law_355 : decode cL_law 355 = .ok (.ireturn, 1) := by decide +kernel
theorem dL_law_356 : decode cL_law 356 = .ok (.aload_n 1, 1) := by decide +kernel
theorem dL_law_357 : decode cL_law 357 = .ok (.aload_n 0, 1) := by decide +kernel
theorem dL_law_358 : decode cL_law 358 = .ok (.iload_n 3, 1) := by decide +kernel
theorem dL_law_359 : decode cL_law 359 = .ok (.iconst 1, 1) := by decide +kernel
theorem dL_law_360 : decode cL_law 360 = .ok (.iadd, 1) := by decide +kernel
theorem dL_law_361 : decode cL_law 361 = .ok (.iaload, 1) := by decide +kernel
theorem dL_law_362 : decode cL_law 362 = .ok (.aload_n 0, 1) := by decide +kernel
theorem dL_law_363 : decode cL_law 363 = .ok (.iload_n 3, 1) := by decide +kernel
theorem dL_law_364 : decode cL_law 364 = .ok (.iconst 2, 1) := by decide +kernel
theorem dL_law_365 : decode cL_law 365 = .ok (.iadd, 1) := by decide +kernel
theorem dL_law_366 : decode cL_law 366 = .ok (.iaload, 1) := by decide +kernel
theorem dL_law_367 : decode cL_law 367 = .ok (.aload_n 0, 1) := by decide +kernel
theorem dL_law_368 : decode cL_law 368 = .ok (.iload_n 3, 1) := by decide +kernel
theorem dL_law_369 : decode cL_law 369 = .ok (.iconst 3, 1) := by decide +kernel
theorem dL_law_370 : decode cL_law 370 = .ok (.iadd, 1) := by decide +kernel
theorem dL_law_371 : decode cL_law 371 = .ok (.iaload, 1) := by decide +kernel
theorem dL_law_372 : decode cL_law 372 = .ok (.invokevirtual 33, 3) := by decide +kernel
theorem dL_law_375 : decode cL_law 375 = .ok (.aload_n 2, 1) := by decide +kernel
theorem dL_law_376 : decode cL_law 376 = .ok (.aload_n 0, 1) := by decide +kernel
theorem dL_law_377 : decode cL_law 377 = .ok (.iload_n 3, 1) := by decide +kernel
theorem dL_law_378 : decode cL_law 378 = .ok (.iconst 1, 1) := by decide +kernel
theorem dL_law_379 : decode cL_law 379 = .ok (.iadd, 1) := by decide +kernel
theorem dL_law_380 : decode cL_law 380 = .ok (.iaload, 1) := by decide +kernel
theorem dL_law_381 : decode cL_law 381 = .ok (.aload_n 0, 1) := by decide +kernel
theorem dL_law_382 : decode cL_law 382 = .ok (.iload_n 3, 1) := by decide +kernel
theorem dL_law_383 : decode cL_law 383 = .ok (.iconst 2, 1) := by decide +kernel
theorem dL_law_384 : decode cL_law 384 = .ok (.iadd, 1) := by decide +kernel
theorem dL_law_385 : decode cL_law 385 = .ok (.iaload, 1) := by decide +kernel
theorem dL_law_386 : decode cL_law 386 = .ok (.aload_n 0, 1) := by decide +kernel
theorem dL_law_387 : decode cL_law 387 = .ok (.iload_n 3, 1) := by decide +kernel
theorem dL_law_388 : decode cL_law 388 = .ok (.iconst 3, 1) := by decide +kernel
theorem dL_law_389 : decode cL_law 389 = .ok (.iadd, 1) := by decide +kernel
theorem dL_law_390 : decode cL_law 390 = .ok (.iaload, 1) := by decide +kernel
theorem dL_law_391 : decode cL_law 391 = .ok (.invokevirtual 36, 3) := by decide +kernel
theorem dL_law_394 : decode cL_law 394 = .ok (.if_icmp .eq 957, 3) := by decide +kernel
theorem dL_law_397 : decode cL_law 397 = .ok (.iconst 0, 1) := by decide +kernel
theorem dL_law_398 : decode cL_law 398 = .ok (.ireturn, 1) := by decide +kernel
theorem dL_law_399 : decode cL_law 399 = .ok (.aload_n 1, 1) := by decide +kernel
theorem dL_law_400 : decode cL_law 400 = .ok (.aload_n 0, 1) := by decide +kernel
theorem dL_law_401 : decode cL_law 401 = .ok (.iload_n 3, 1) := by decide +kernel
theorem dL_law_402 : decode cL_law 402 = .ok (.iconst 1, 1) := by decide +kernel
theorem dL_law_403 : decode cL_law 403 = .ok (.iadd, 1) := by decide +kernel
theorem dL_law_404 : decode cL_law 404 = .ok (.iaload, 1) := by decide +kernel
theorem dL_law_405 : decode cL_law 405 = .ok (.invokevirtual 37, 3) := by decide +kernel
theorem dL_law_408 : decode cL_law 408 = .ok (.aload_n 2, 1) := by decide +kernel
theorem dL_law_409 : decode cL_law 409 = .ok (.aload_n 0, 1) := by decide +kernel
theorem dL_law_410 : decode cL_law 410 = .ok (.iload_n 3, 1) := by decide +kernel
theorem dL_law_411 : decode cL_law 411 = .ok (.iconst 1, 1) := by decide +kernel
theorem dL_law_412 : decode cL_law 412 = .ok (.iadd, 1) := by decide +kernel
theorem dL_law_413 : decode cL_law 413 = .ok (.iaload, 1) := by decide +kernel
theorem dL_law_414 : decode cL_law 414 = .ok (.invokevirtual 40, 3) := by decide +kernel
theorem dL_law_417 : decode cL_law 417 = .ok (.if_icmp .eq 934, 3) := by decide +kernel
theorem dL_law_420 : decode cL_law 420 = .ok (.iconst 0, 1) := by decide +kernel
theorem dL_law_421 : decode cL_law 421 = .ok (.ireturn, 1) := by decide +kernel
theorem dL_law_422 : decode cL_law 422 = .ok (.aload_n 1, 1) := by decide +kernel
theorem dL_law_423 : decode cL_law 423 = .ok (.invokevirtual 41, 3) := by decide +kernel
theorem dL_law_426 : decode cL_law 426 = .ok (.aload_n 2, 1) := by decide +kernel
theorem dL_law_427 : decode cL_law 427 = .ok (.invokevirtual 45, 3) := by decide +kernel
theorem dL_law_430 : decode cL_law 430 = .ok (.if_icmp .eq 921, 3) := by decide +kernel
theorem dL_law_433 : decode cL_law 433 = .ok (.iconst 0, 1) := by decide +kernel
theorem dL_law_434 : decode cL_law 434 = .ok (.ireturn, 1) := by decide +kernel
theorem dL_law_435 : decode cL_law 435 = .ok (.aload_n 1, 1) := by decide +kernel
theorem dL_law_436 : decode cL_law 436 = .ok (.aload_n 0, 1) := by decide +kernel
theorem dL_law_437 : decode cL_law 437 = .ok (.iload_n 3, 1) := by decide +kernel
theorem dL_law_438 : decode cL_law 438 = .ok (.iconst 1, 1) := by decide +kernel
theorem dL_law_439 : decode cL_law 439 = .ok (.iadd, 1) := by decide +kernel
theorem dL_law_440 : decode cL_law 440 = .ok (.iaload, 1) := by decide +kernel
theorem dL_law_441 : decode cL_law 441 = .ok (.invokevirtual 46, 3) := by decide +kernel
theorem dL_law_444 : decode cL_law 444 = .ok (.aload_n 2, 1) := by decide +kernel
theorem dL_law_445 : decode cL_law 445 = .ok (.aload_n 0, 1) := by decide +kernel
theorem dL_law_446 : decode cL_law 446 = .ok (.iload_n 3, 1) := by decide +kernel
theorem dL_law_447 : decode cL_law 447 = .ok (.iconst 1, 1) := by decide +kernel
theorem dL_law_448 : decode cL_law 448 = .ok (.iadd, 1) := by decide +kernel
theorem dL_law_449 : decode cL_law 449 = .ok (.iaload, 1) := by decide +kernel
theorem dL_law_450 : decode cL_law 450 = .ok (.invokevirtual 49, 3) := by decide +kernel
theorem dL_law_453 : decode cL_law 453 = .ok (.if_icmp .eq 898, 3) := by decide +kernel
theorem dL_law_456 : decode cL_law 456 = .ok (.iconst 0, 1) := by decide +kernel
theorem dL_law_457 : decode cL_law 457 = .ok (.ireturn, 1) := by decide +kernel
theorem dL_law_458 : decode cL_law 458 = .ok (.aload_n 1, 1) := by decide +kernel
theorem dL_law_459 : decode cL_law 459 = .ok (.aload_n 0, 1) := by decide +kernel
theorem dL_law_460 : decode cL_law 460 = .ok (.iload_n 3, 1) := by decide +kernel
theorem dL_law_461 : decode cL_law 461 = .ok (.iconst 1, 1) := by decide +kernel
theorem dL_law_462 : decode cL_law 462 = .ok (.iadd, 1) := by decide +kernel
theorem dL_law_463 : decode cL_law 463 = .ok (.iaload, 1) := by decide +kernel
theorem dL_law_464 : decode cL_law 464 = .ok (.aload_n 0, 1) := by decide +kernel
theorem dL_law_465 : decode cL_law 465 = .ok (.iload_n 3, 1) := by decide +kernel
theorem dL_law_466 : decode cL_law 466 = .ok (.iconst 2, 1) := by decide +kernel
theorem dL_law_467 : decode cL_law 467 = .ok (.iadd, 1) := by decide +kernel
theorem dL_law_468 : decode cL_law 468 = .ok (.iaload, 1) := by decide +kernel
theorem dL_law_469 : decode cL_law 469 = .ok (.invokevirtual 50, 3) := by decide +kernel
theorem dL_law_472 : decode cL_law 472 = .ok (.aload_n 2, 1) := by decide +kernel
theorem dL_law_473 : decode cL_law 473 = .ok (.aload_n 0, 1) := by decide +kernel
theorem dL_law_474 : decode cL_law 474 = .ok (.iload_n 3, 1) := by decide +kernel
theorem dL_law_475 : decode cL_law 475 = .ok (.iconst 1, 1) := by decide +kernel
theorem dL_law_476 : decode cL_law 476 = .ok (.iadd, 1) := by decide +kernel
theorem dL_law_477 : decode cL_law 477 = .ok (.iaload, 1) := by decide +kernel
theorem dL_law_478 : decode cL_law 478 = .ok (.aload_n 0, 1) := by decide +kernel
theorem dL_law_479 : decode cL_law 479 = .ok (.iload_n 3, 1) := by decide +kernel
theorem dL_law_480 : decode cL_law 480 = .ok (.iconst 2, 1) := by decide +kernel
theorem dL_law_481 : decode cL_law 481 = .ok (.iadd, 1) := by decide +kernel
theorem dL_law_482 : decode cL_law 482 = .ok (.iaload, 1) := by decide +kernel
theorem dL_law_483 : decode cL_law 483 = .ok (.invokevirtual 53, 3) := by decide +kernel
theorem dL_law_486 : decode cL_law 486 = .ok (.if_icmp .eq 865, 3) := by decide +kernel
theorem dL_law_489 : decode cL_law 489 = .ok (.iconst 0, 1) := by decide +kernel
theorem dL_law_490 : decode cL_law 490 = .ok (.ireturn, 1) := by decide +kernel
theorem dL_law_491 : decode cL_law 491 = .ok (.aload_n 1, 1) := by decide +kernel
theorem dL_law_492 : decode cL_law 492 = .ok (.aload_n 0, 1) := by decide +kernel
theorem dL_law_493 : decode cL_law 493 = .ok (.iload_n 3, 1) := by decide +kernel
theorem dL_law_494 : decode cL_law 494 = .ok (.iconst 1, 1) := by decide +kernel
theorem dL_law_495 : decode cL_law 495 = .ok (.iadd, 1) := by decide +kernel
theorem dL_law_496 : decode cL_law 496 = .ok (.iaload, 1) := by decide +kernel
theorem dL_law_497 : decode cL_law 497 = .ok (.aload_n 0, 1) := by decide +kernel
theorem dL_law_498 : decode cL_law 498 = .ok (.iload_n 3, 1) := by decide +kernel
theorem dL_law_499 : decode cL_law 499 = .ok (.iconst 2, 1) := by decide +kernel
theorem dL_law_500 : decode cL_law 500 = .ok (.iadd, 1) := by decide +kernel
theorem dL_law_501 : decode cL_law 501 = .ok (.iaload, 1) := by decide +kernel
theorem dL_law_502 : decode cL_law 502 = .ok (.invokevirtual 54, 3) := by decide +kernel
theorem dL_law_505 : decode cL_law 505 = .ok (.aload_n 2, 1) := by decide +kernel
theorem dL_law_506 : decode cL_law 506 = .ok (.aload_n 0, 1) := by decide +kernel
theorem dL_law_507 : decode cL_law 507 = .ok (.iload_n 3, 1) := by decide +kernel
theorem dL_law_508 : decode cL_law 508 = .ok (.iconst 1, 1) := by decide +kernel
theorem dL_law_509 : decode cL_law 509 = .ok (.iadd, 1) := by decide +kernel
theorem dL_law_510 : decode cL_law 510 = .ok (.iaload, 1) := by decide +kernel
theorem dL_law_511 : decode cL_law 511 = .ok (.aload_n 0, 1) := by decide +kernel
theorem dL_law_512 : decode cL_law 512 = .ok (.iload_n 3, 1) := by decide +kernel
theorem dL_law_513 : decode cL_law 513 = .ok (.iconst 2, 1) := by decide +kernel
theorem dL_law_514 : decode cL_law 514 = .ok (.iadd, 1) := by decide +kernel
theorem dL_law_515 : decode cL_law 515 = .ok (.iaload, 1) := by decide +kernel
theorem dL_law_516 : decode cL_law 516 = .ok (.invokevirtual 57, 3) := by decide +kernel
theorem dL_law_519 : decode cL_law 519 = .ok (.if_icmp .eq 832, 3) := by decide +kernel
theorem dL_law_522 : decode cL_law 522 = .ok (.iconst 0, 1) := by decide +kernel
theorem dL_law_523 : decode cL_law 523 = .ok (.ireturn, 1) := by decide +kernel
theorem dL_law_524 : decode cL_law 524 = .ok (.aload_n 1, 1) := by decide +kernel
theorem dL_law_525 : decode cL_law 525 = .ok (.aload_n 0, 1) := by decide +kernel
theorem dL_law_526 : decode cL_law 526 = .ok (.iload_n 3, 1) := by decide +kernel
theorem dL_law_527 : decode cL_law 527 = .ok (.iconst 1, 1) := by decide +kernel
theorem dL_law_528 : decode cL_law 528 = .ok (.iadd, 1) := by decide +kernel
theorem dL_law_529 : decode cL_law 529 = .ok (.iaload, 1) := by decide +kernel
theorem dL_law_530 : decode cL_law 530 = .ok (.invokevirtual 58, 3) := by decide +kernel
theorem dL_law_533 : decode cL_law 533 = .ok (.aload_n 2, 1) := by decide +kernel
theorem dL_law_534 : decode cL_law 534 = .ok (.aload_n 0, 1) := by decide +kernel
theorem dL_law_535 : decode cL_law 535 = .ok (.iload_n 3, 1) := by decide +kernel
theorem dL_law_536 : decode cL_law 536 = .ok (.iconst 1, 1) := by decide +kernel
theorem dL_law_537 : decode cL_law 537 = .ok (.iadd, 1) := by decide +kernel
theorem dL_law_538 : decode cL_law 538 = .ok (.iaload, 1) := by decide +kernel
theorem dL_law_539 : decode cL_law 539 = .ok (.invokevirtual 61, 3) := by decide +kernel
theorem dL_law_542 : decode cL_law 542 = .ok (.if_icmp .eq 809, 3) := by decide +kernel
theorem dL_law_545 : decode cL_law 545 = .ok (.iconst 0, 1) := by decide +kernel
theorem dL_law_546 : decode cL_law 546 = .ok (.ireturn, 1) := by decide +kernel
theorem dL_law_547 : decode cL_law 547 = .ok (.aload_n 1, 1) := by decide +kernel
theorem dL_law_548 : decode cL_law 548 = .ok (.invokevirtual 62, 3) := by decide +kernel
theorem dL_law_551 : decode cL_law 551 = .ok (.aload_n 2, 1) := by decide +kernel
theorem dL_law_552 : decode cL_law 552 = .ok (.invokevirtual 65, 3) := by decide +kernel
theorem dL_law_555 : decode cL_law 555 = .ok (.if_icmp .eq 796, 3) := by decide +kernel
theorem dL_law_558 : decode cL_law 558 = .ok (.iconst 0, 1) := by decide +kernel
theorem dL_law_559 : decode cL_law 559 = .ok (.ireturn, 1) := by decide +kernel
theorem dL_law_560 : decode cL_law 560 = .ok (.aload_n 1, 1) := by decide +kernel
theorem dL_law_561 : decode cL_law 561 = .ok (.aload_n 0, 1) := by decide +kernel
theorem dL_law_562 : decode cL_law 562 = .ok (.iload_n 3, 1) := by decide +kernel
theorem dL_law_563 : decode cL_law 563 = .ok (.iconst 1, 1) := by decide +kernel
theorem dL_law_564 : decode cL_law 564 = .ok (.iadd, 1) := by decide +kernel
theorem dL_law_565 : decode cL_law 565 = .ok (.iaload, 1) := by decide +kernel
theorem dL_law_566 : decode cL_law 566 = .ok (.aload_n 0, 1) := by decide +kernel
theorem dL_law_567 : decode cL_law 567 = .ok (.iload_n 3, 1) := by decide +kernel
theorem dL_law_568 : decode cL_law 568 = .ok (.iconst 2, 1) := by decide +kernel
theorem dL_law_569 : decode cL_law 569 = .ok (.iadd, 1) := by decide +kernel
theorem dL_law_570 : decode cL_law 570 = .ok (.iaload, 1) := by decide +kernel
theorem dL_law_571 : decode cL_law 571 = .ok (.invokevirtual 66, 3) := by decide +kernel
theorem dL_law_574 : decode cL_law 574 = .ok (.aload_n 2, 1) := by decide +kernel
theorem dL_law_575 : decode cL_law 575 = .ok (.aload_n 0, 1) := by decide +kernel
theorem dL_law_576 : decode cL_law 576 = .ok (.iload_n 3, 1) := by decide +kernel
theorem dL_law_577 : decode cL_law 577 = .ok (.iconst 1, 1) := by decide +kernel
theorem dL_law_578 : decode cL_law 578 = .ok (.iadd, 1) := by decide +kernel
theorem dL_law_579 : decode cL_law 579 = .ok (.iaload, 1) := by decide +kernel
theorem dL_law_580 : decode cL_law 580 = .ok (.aload_n 0, 1) := by decide +kernel
theorem dL_law_581 : decode cL_law 581 = .ok (.iload_n 3, 1) := by decide +kernel
theorem dL_law_582 : decode cL_law 582 = .ok (.iconst 2, 1) := by decide +kernel
theorem dL_law_583 : decode cL_law 583 = .ok (.iadd, 1) := by decide +kernel
theorem dL_law_584 : decode cL_law 584 = .ok (.iaload, 1) := by decide +kernel
theorem dL_law_585 : decode cL_law 585 = .ok (.invokevirtual 69, 3) := by decide +kernel
theorem dL_law_588 : decode cL_law 588 = .ok (.if_icmp .eq 763, 3) := by decide +kernel
theorem dL_law_591 : decode cL_law 591 = .ok (.iconst 0, 1) := by decide +kernel
theorem dL_law_592 : decode cL_law 592 = .ok (.ireturn, 1) := by decide +kernel
theorem dL_law_593 : decode cL_law 593 = .ok (.aload_n 1, 1) := by decide +kernel
theorem dL_law_594 : decode cL_law 594 = .ok (.invokevirtual 70, 3) := by decide +kernel
theorem dL_law_597 : decode cL_law 597 = .ok (.aload_n 2, 1) := by decide +kernel
theorem dL_law_598 : decode cL_law 598 = .ok (.invokevirtual 73, 3) := by decide +kernel
theorem dL_law_601 : decode cL_law 601 = .ok (.if_icmp .eq 750, 3) := by decide +kernel
theorem dL_law_604 : decode cL_law 604 = .ok (.iconst 0, 1) := by decide +kernel
theorem dL_law_605 : decode cL_law 605 = .ok (.ireturn, 1) := by decide +kernel
theorem dL_law_606 : decode cL_law 606 = .ok (.aload_n 1, 1) := by decide +kernel
theorem dL_law_607 : decode cL_law 607 = .ok (.aload_n 0, 1) := by decide +kernel
theorem dL_law_608 : decode cL_law 608 = .ok (.iload_n 3, 1) := by decide +kernel
theorem dL_law_609 : decode cL_law 609 = .ok (.iconst 1, 1) := by decide +kernel
theorem dL_law_610 : decode cL_law 610 = .ok (.iadd, 1) := by decide +kernel
theorem dL_law_611 : decode cL_law 611 = .ok (.iaload, 1) := by decide +kernel
theorem dL_law_612 : decode cL_law 612 = .ok (.invokevirtual 74, 3) := by decide +kernel
theorem dL_law_615 : decode cL_law 615 = .ok (.aload_n 2, 1) := by decide +kernel
theorem dL_law_616 : decode cL_law 616 = .ok (.aload_n 0, 1) := by decide +kernel
theorem dL_law_617 : decode cL_law 617 = .ok (.iload_n 3, 1) := by decide +kernel
theorem dL_law_618 : decode cL_law 618 = .ok (.iconst 1, 1) := by decide +kernel
theorem dL_law_619 : decode cL_law 619 = .ok (.iadd, 1) := by decide +kernel
theorem dL_law_620 : decode cL_law 620 = .ok (.iaload, 1) := by decide +kernel
theorem dL_law_621 : decode cL_law 621 = .ok (.invokevirtual 77, 3) := by decide +kernel
theorem dL_law_624 : decode cL_law 624 = .ok (.if_icmp .eq 727, 3) := by decide +kernel
theorem dL_law_627 : decode cL_law 627 = .ok (.iconst 0, 1) := by decide +kernel
theorem dL_law_628 : decode cL_law 628 = .ok (.ireturn, 1) := by decide +kernel
theorem dL_law_629 : decode cL_law 629 = .ok (.aload_n 1, 1) := by decide +kernel
theorem dL_law_630 : decode cL_law 630 = .ok (.invokevirtual 78, 3) := by decide +kernel
theorem dL_law_633 : decode cL_law 633 = .ok (.aload_n 2, 1) := by decide +kernel
theorem dL_law_634 : decode cL_law 634 = .ok (.invokevirtual 81, 3) := by decide +kernel
theorem dL_law_637 : decode cL_law 637 = .ok (.if_icmp .eq 714, 3) := by decide +kernel
theorem dL_law_640 : decode cL_law 640 = .ok (.iconst 0, 1) := by decide +kernel
theorem dL_law_641 : decode cL_law 641 = .ok (.ireturn, 1) := by decide +kernel
theorem dL_law_642 : decode cL_law 642 = .ok (.aload_n 1, 1) := by decide +kernel
theorem dL_law_643 : decode cL_law 643 = .ok (.aload_n 0, 1) := by decide +kernel
theorem dL_law_644 : decode cL_law 644 = .ok (.iload_n 3, 1) := by decide +kernel
theorem dL_law_645 : decode cL_law 645 = .ok (.iconst 1, 1) := by decide +kernel
theorem dL_law_646 : decode cL_law 646 = .ok (.iadd, 1) := by decide +kernel
theorem dL_law_647 : decode cL_law 647 = .ok (.iaload, 1) := by decide +kernel
theorem dL_law_648 : decode cL_law 648 = .ok (.aload_n 0, 1) := by decide +kernel
theorem dL_law_649 : decode cL_law 649 = .ok (.iload_n 3, 1) := by decide +kernel
theorem dL_law_650 : decode cL_law 650 = .ok (.iconst 2, 1) := by decide +kernel
theorem dL_law_651 : decode cL_law 651 = .ok (.iadd, 1) := by decide +kernel
theorem dL_law_652 : decode cL_law 652 = .ok (.iaload, 1) := by decide +kernel
theorem dL_law_653 : decode cL_law 653 = .ok (.aload_n 0, 1) := by decide +kernel
theorem dL_law_654 : decode cL_law 654 = .ok (.iload_n 3, 1) := by decide +kernel
theorem dL_law_655 : decode cL_law 655 = .ok (.iconst 3, 1) := by decide +kernel
theorem dL_law_656 : decode cL_law 656 = .ok (.iadd, 1) := by decide +kernel
theorem dL_law_657 : decode cL_law 657 = .ok (.iaload, 1) := by decide +kernel
theorem dL_law_658 : decode cL_law 658 = .ok (.invokevirtual 82, 3) := by decide +kernel
theorem dL_law_661 : decode cL_law 661 = .ok (.aload_n 2, 1) := by decide +kernel
theorem dL_law_662 : decode cL_law 662 = .ok (.aload_n 0, 1) := by decide +kernel
theorem dL_law_663 : decode cL_law 663 = .ok (.iload_n 3, 1) := by decide +kernel
theorem dL_law_664 : decode cL_law 664 = .ok (.iconst 1, 1) := by decide +kernel
theorem dL_law_665 : decode cL_law 665 = .ok (.iadd, 1) := by decide +kernel
theorem dL_law_666 : decode cL_law 666 = .ok (.iaload, 1) := by decide +kernel
theorem dL_law_667 : decode cL_law 667 = .ok (.aload_n 0, 1) := by decide +kernel
theorem dL_law_668 : decode cL_law 668 = .ok (.iload_n 3, 1) := by decide +kernel
theorem dL_law_669 : decode cL_law 669 = .ok (.iconst 2, 1) := by decide +kernel
theorem dL_law_670 : decode cL_law 670 = .ok (.iadd, 1) := by decide +kernel
theorem dL_law_671 : decode cL_law 671 = .ok (.iaload, 1) := by decide +kernel
theorem dL_law_672 : decode cL_law 672 = .ok (.aload_n 0, 1) := by decide +kernel
theorem dL_law_673 : decode cL_law 673 = .ok (.iload_n 3, 1) := by decide +kernel
theorem dL_law_674 : decode cL_law 674 = .ok (.iconst 3, 1) := by decide +kernel
theorem dL_law_675 : decode cL_law 675 = .ok (.iadd, 1) := by decide +kernel
theorem dL_law_676 : decode cL_law 676 = .ok (.iaload, 1) := by decide +kernel
theorem dL_law_677 : decode cL_law 677 = .ok (.invokevirtual 85, 3) := by decide +kernel
theorem dL_law_680 : decode cL_law 680 = .ok (.if_icmp .eq 671, 3) := by decide +kernel
theorem dL_law_683 : decode cL_law 683 = .ok (.iconst 0, 1) := by decide +kernel
theorem dL_law_684 : decode cL_law 684 = .ok (.ireturn, 1) := by decide +kernel
theorem dL_law_685 : decode cL_law 685 = .ok (.aload_n 1, 1) := by decide +kernel
theorem dL_law_686 : decode cL_law 686 = .ok (.aload_n 0, 1) := by decide +kernel
theorem dL_law_687 : decode cL_law 687 = .ok (.iload_n 3, 1) := by decide +kernel
theorem dL_law_688 : decode cL_law 688 = .ok (.iconst 1, 1) := by decide +kernel
theorem dL_law_689 : decode cL_law 689 = .ok (.iadd, 1) := by decide +kernel
theorem dL_law_690 : decode cL_law 690 = .ok (.iaload, 1) := by decide +kernel
theorem dL_law_691 : decode cL_law 691 = .ok (.invokevirtual 86, 3) := by decide +kernel
theorem dL_law_694 : decode cL_law 694 = .ok (.aload_n 2, 1) := by decide +kernel
theorem dL_law_695 : decode cL_law 695 = .ok (.aload_n 0, 1) := by decide +kernel
theorem dL_law_696 : decode cL_law 696 = .ok (.iload_n 3, 1) := by decide +kernel
theorem dL_law_697 : decode cL_law 697 = .ok (.iconst 1, 1) := by decide +kernel
theorem dL_law_698 : decode cL_law 698 = .ok (.iadd, 1) := by decide +kernel
theorem dL_law_699 : decode cL_law 699 = .ok (.iaload, 1) := by decide +kernel
theorem dL_law_700 : decode cL_law 700 = .ok (.invokevirtual 89, 3) := by decide +kernel
theorem dL_law_703 : decode cL_law 703 = .ok (.if_icmp .eq 648, 3) := by decide +kernel
theorem dL_law_706 : decode cL_law 706 = .ok (.iconst 0, 1) := by decide +kernel
theorem dL_law_707 : decode cL_law 707 = .ok (.ireturn, 1) := by decide +kernel
theorem dL_law_708 : decode cL_law 708 = .ok (.aload_n 1, 1) := by decide +kernel
theorem dL_law_709 : decode cL_law 709 = .ok (.aload_n 0, 1) := by decide +kernel
theorem dL_law_710 : decode cL_law 710 = .ok (.iload_n 3, 1) := by decide +kernel
theorem dL_law_711 : decode cL_law 711 = .ok (.iconst 1, 1) := by decide +kernel
theorem dL_law_712 : decode cL_law 712 = .ok (.iadd, 1) := by decide +kernel
theorem dL_law_713 : decode cL_law 713 = .ok (.iaload, 1) := by decide +kernel
theorem dL_law_714 : decode cL_law 714 = .ok (.aload_n 0, 1) := by decide +kernel
theorem dL_law_715 : decode cL_law 715 = .ok (.iload_n 3, 1) := by decide +kernel
theorem dL_law_716 : decode cL_law 716 = .ok (.iconst 2, 1) := by decide +kernel
theorem dL_law_717 : decode cL_law 717 = .ok (.iadd, 1) := by decide +kernel
theorem dL_law_718 : decode cL_law 718 = .ok (.iaload, 1) := by decide +kernel
theorem dL_law_719 : decode cL_law 719 = .ok (.invokevirtual 90, 3) := by decide +kernel
theorem dL_law_722 : decode cL_law 722 = .ok (.aload_n 2, 1) := by decide +kernel
theorem dL_law_723 : decode cL_law 723 = .ok (.aload_n 0, 1) := by decide +kernel
theorem dL_law_724 : decode cL_law 724 = .ok (.iload_n 3, 1) := by decide +kernel
theorem dL_law_725 : decode cL_law 725 = .ok (.iconst 1, 1) := by decide +kernel
theorem dL_law_726 : decode cL_law 726 = .ok (.iadd, 1) := by decide +kernel
theorem dL_law_727 : decode cL_law 727 = .ok (.iaload, 1) := by decide +kernel
theorem dL_law_728 : decode cL_law 728 = .ok (.aload_n 0, 1) := by decide +kernel
theorem dL_law_729 : decode cL_law 729 = .ok (.iload_n 3, 1) := by decide +kernel
theorem dL_law_730 : decode cL_law 730 = .ok (.iconst 2, 1) := by decide +kernel
theorem dL_law_731 : decode cL_law 731 = .ok (.iadd, 1) := by decide +kernel
theorem dL_law_732 : decode cL_law 732 = .ok (.iaload, 1) := by decide +kernel
theorem dL_law_733 : decode cL_law 733 = .ok (.invokevirtual 93, 3) := by decide +kernel
theorem dL_law_736 : decode cL_law 736 = .ok (.if_icmp .eq 615, 3) := by decide +kernel
theorem dL_law_739 : decode cL_law 739 = .ok (.iconst 0, 1) := by decide +kernel
theorem dL_law_740 : decode cL_law 740 = .ok (.ireturn, 1) := by decide +kernel
theorem dL_law_741 : decode cL_law 741 = .ok (.aload_n 1, 1) := by decide +kernel
theorem dL_law_742 : decode cL_law 742 = .ok (.aload_n 0, 1) := by decide +kernel
theorem dL_law_743 : decode cL_law 743 = .ok (.iload_n 3, 1) := by decide +kernel
theorem dL_law_744 : decode cL_law 744 = .ok (.iconst 1, 1) := by decide +kernel
theorem dL_law_745 : decode cL_law 745 = .ok (.iadd, 1) := by decide +kernel
theorem dL_law_746 : decode cL_law 746 = .ok (.iaload, 1) := by decide +kernel
theorem dL_law_747 : decode cL_law 747 = .ok (.aload_n 0, 1) := by decide +kernel
theorem dL_law_748 : decode cL_law 748 = .ok (.iload_n 3, 1) := by decide +kernel
theorem dL_law_749 : decode cL_law 749 = .ok (.iconst 2, 1) := by decide +kernel
theorem dL_law_750 : decode cL_law 750 = .ok (.iadd, 1) := by decide +kernel
theorem dL_law_751 : decode cL_law 751 = .ok (.iaload, 1) := by decide +kernel
theorem dL_law_752 : decode cL_law 752 = .ok (.invokevirtual 94, 3) := by decide +kernel
theorem dL_law_755 : decode cL_law 755 = .ok (.aload_n 2, 1) := by decide +kernel
theorem dL_law_756 : decode cL_law 756 = .ok (.aload_n 0, 1) := by decide +kernel
theorem dL_law_757 : decode cL_law 757 = .ok (.iload_n 3, 1) := by decide +kernel
theorem dL_law_758 : decode cL_law 758 = .ok (.iconst 1, 1) := by decide +kernel
theorem dL_law_759 : decode cL_law 759 = .ok (.iadd, 1) := by decide +kernel
theorem dL_law_760 : decode cL_law 760 = .ok (.iaload, 1) := by decide +kernel
theorem dL_law_761 : decode cL_law 761 = .ok (.aload_n 0, 1) := by decide +kernel
theorem dL_law_762 : decode cL_law 762 = .ok (.iload_n 3, 1) := by decide +kernel
theorem dL_law_763 : decode cL_law 763 = .ok (.iconst 2, 1) := by decide +kernel
theorem dL_law_764 : decode cL_law 764 = .ok (.iadd, 1) := by decide +kernel
theorem dL_law_765 : decode cL_law 765 = .ok (.iaload, 1) := by decide +kernel
theorem dL_law_766 : decode cL_law 766 = .ok (.invokevirtual 97, 3) := by decide +kernel
theorem dL_law_769 : decode cL_law 769 = .ok (.if_icmp .eq 582, 3) := by decide +kernel
theorem dL_law_772 : decode cL_law 772 = .ok (.iconst 0, 1) := by decide +kernel
theorem dL_law_773 : decode cL_law 773 = .ok (.ireturn, 1) := by decide +kernel
theorem dL_law_774 : decode cL_law 774 = .ok (.aload_n 1, 1) := by decide +kernel
theorem dL_law_775 : decode cL_law 775 = .ok (.aload_n 0, 1) := by decide +kernel
theorem dL_law_776 : decode cL_law 776 = .ok (.iload_n 3, 1) := by decide +kernel
theorem dL_law_777 : decode cL_law 777 = .ok (.iconst 1, 1) := by decide +kernel
theorem dL_law_778 : decode cL_law 778 = .ok (.iadd, 1) := by decide +kernel
theorem dL_law_779 : decode cL_law 779 = .ok (.iaload, 1) := by decide +kernel
theorem dL_law_780 : decode cL_law 780 = .ok (.invokevirtual 98, 3) := by decide +kernel
theorem dL_law_783 : decode cL_law 783 = .ok (.aload_n 2, 1) := by decide +kernel
theorem dL_law_784 : decode cL_law 784 = .ok (.aload_n 0, 1) := by decide +kernel
theorem dL_law_785 : decode cL_law 785 = .ok (.iload_n 3, 1) := by decide +kernel
theorem dL_law_786 : decode cL_law 786 = .ok (.iconst 1, 1) := by decide +kernel
theorem dL_law_787 : decode cL_law 787 = .ok (.iadd, 1) := by decide +kernel
theorem dL_law_788 : decode cL_law 788 = .ok (.iaload, 1) := by decide +kernel
theorem dL_law_789 : decode cL_law 789 = .ok (.invokevirtual 101, 3) := by decide +kernel
theorem dL_law_792 : decode cL_law 792 = .ok (.if_icmp .eq 559, 3) := by decide +kernel
theorem dL_law_795 : decode cL_law 795 = .ok (.iconst 0, 1) := by decide +kernel
theorem dL_law_796 : decode cL_law 796 = .ok (.ireturn, 1) := by decide +kernel
theorem dL_law_797 : decode cL_law 797 = .ok (.aload_n 1, 1) := by decide +kernel
theorem dL_law_798 : decode cL_law 798 = .ok (.invokevirtual 102, 3) := by decide +kernel
theorem dL_law_801 : decode cL_law 801 = .ok (.aload_n 2, 1) := by decide +kernel
theorem dL_law_802 : decode cL_law 802 = .ok (.invokevirtual 105, 3) := by decide +kernel
theorem dL_law_805 : decode cL_law 805 = .ok (.if_icmp .eq 546, 3) := by decide +kernel
theorem dL_law_808 : decode cL_law 808 = .ok (.iconst 0, 1) := by decide +kernel
theorem dL_law_809 : decode cL_law 809 = .ok (.ireturn, 1) := by decide +kernel
theorem dL_law_810 : decode cL_law 810 = .ok (.aload_n 1, 1) := by decide +kernel
theorem dL_law_811 : decode cL_law 811 = .ok (.aload_n 0, 1) := by decide +kernel
theorem dL_law_812 : decode cL_law 812 = .ok (.iload_n 3, 1) := by decide +kernel
theorem dL_law_813 : decode cL_law 813 = .ok (.iconst 1, 1) := by decide +kernel
theorem dL_law_814 : decode cL_law 814 = .ok (.iadd, 1) := by decide +kernel
theorem dL_law_815 : decode cL_law 815 = .ok (.iaload, 1) := by decide +kernel
theorem dL_law_816 : decode cL_law 816 = .ok (.invokevirtual 106, 3) := by decide +kernel
theorem dL_law_819 : decode cL_law 819 = .ok (.aload_n 2, 1) := by decide +kernel
theorem dL_law_820 : decode cL_law 820 = .ok (.aload_n 0, 1) := by decide +kernel
theorem dL_law_821 : decode cL_law 821 = .ok (.iload_n 3, 1) := by decide +kernel
theorem dL_law_822 : decode cL_law 822 = .ok (.iconst 1, 1) := by decide +kernel
theorem dL_law_823 : decode cL_law 823 = .ok (.iadd, 1) := by decide +kernel
theorem dL_law_824 : decode cL_law 824 = .ok (.iaload, 1) := by decide +kernel
theorem dL_law_825 : decode cL_law 825 = .ok (.invokevirtual 109, 3) := by decide +kernel
theorem dL_law_828 : decode cL_law 828 = .ok (.if_icmp .eq 523, 3) := by decide +kernel
theorem dL_law_831 : decode cL_law 831 = .ok (.iconst 0, 1) := by decide +kernel
theorem dL_law_832 : decode cL_law 832 = .ok (.ireturn, 1) := by decide +kernel
theorem dL_law_833 : decode cL_law 833 = .ok (.aload_n 1, 1) := by decide +kernel
theorem dL_law_834 : decode cL_law 834 = .ok (.aload_n 0, 1) := by decide +kernel
theorem dL_law_835 : decode cL_law 835 = .ok (.iload_n 3, 1) := by decide +kernel
theorem dL_law_836 : decode cL_law 836 = .ok (.iconst 1, 1) := by decide +kernel
theorem dL_law_837 : decode cL_law 837 = .ok (.iadd, 1) := by decide +kernel
theorem dL_law_838 : decode cL_law 838 = .ok (.iaload, 1) := by decide +kernel
theorem dL_law_839 : decode cL_law 839 = .ok (.invokevirtual 110, 3) := by decide +kernel
theorem dL_law_842 : decode cL_law 842 = .ok (.aload_n 2, 1) := by decide +kernel
theorem dL_law_843 : decode cL_law 843 = .ok (.aload_n 0, 1) := by decide +kernel
theorem dL_law_844 : decode cL_law 844 = .ok (.iload_n 3, 1) := by decide +kernel
theorem dL_law_845 : decode cL_law 845 = .ok (.iconst 1, 1) := by decide +kernel
theorem dL_law_846 : decode cL_law 846 = .ok (.iadd, 1) := by decide +kernel
theorem dL_law_847 : decode cL_law 847 = .ok (.iaload, 1) := by decide +kernel
theorem dL_law_848 : decode cL_law 848 = .ok (.invokevirtual 113, 3) := by decide +kernel
theorem dL_law_851 : decode cL_law 851 = .ok (.if_icmp .eq 500, 3) := by decide +kernel
theorem dL_law_854 : decode cL_law 854 = .ok (.iconst 0, 1) := by decide +kernel
theorem dL_law_855 : decode cL_law 855 = .ok (.ireturn, 1) := by decide +kernel
theorem dL_law_856 : decode cL_law 856 = .ok (.aload_n 1, 1) := by decide +kernel
theorem dL_law_857 : decode cL_law 857 = .ok (.aload_n 0, 1) := by decide +kernel
theorem dL_law_858 : decode cL_law 858 = .ok (.iload_n 3, 1) := by decide +kernel
theorem dL_law_859 : decode cL_law 859 = .ok (.iconst 1, 1) := by decide +kernel
theorem dL_law_860 : decode cL_law 860 = .ok (.iadd, 1) := by decide +kernel
theorem dL_law_861 : decode cL_law 861 = .ok (.iaload, 1) := by decide +kernel
theorem dL_law_862 : decode cL_law 862 = .ok (.aload_n 0, 1) := by decide +kernel
theorem dL_law_863 : decode cL_law 863 = .ok (.iload_n 3, 1) := by decide +kernel
theorem dL_law_864 : decode cL_law 864 = .ok (.iconst 2, 1) := by decide +kernel
theorem dL_law_865 : decode cL_law 865 = .ok (.iadd, 1) := by decide +kernel
theorem dL_law_866 : decode cL_law 866 = .ok (.iaload, 1) := by decide +kernel
theorem dL_law_867 : decode cL_law 867 = .ok (.aload_n 0, 1) := by decide +kernel
theorem dL_law_868 : decode cL_law 868 = .ok (.iload_n 3, 1) := by decide +kernel
theorem dL_law_869 : decode cL_law 869 = .ok (.iconst 3, 1) := by decide +kernel
theorem dL_law_870 : decode cL_law 870 = .ok (.iadd, 1) := by decide +kernel
theorem dL_law_871 : decode cL_law 871 = .ok (.iaload, 1) := by decide +kernel
theorem dL_law_872 : decode cL_law 872 = .ok (.invokevirtual 114, 3) := by decide +kernel
theorem dL_law_875 : decode cL_law 875 = .ok (.aload_n 2, 1) := by decide +kernel
theorem dL_law_876 : decode cL_law 876 = .ok (.aload_n 0, 1) := by decide +kernel
theorem dL_law_877 : decode cL_law 877 = .ok (.iload_n 3, 1) := by decide +kernel
theorem dL_law_878 : decode cL_law 878 = .ok (.iconst 1, 1) := by decide +kernel
theorem dL_law_879 : decode cL_law 879 = .ok (.iadd, 1) := by decide +kernel
theorem dL_law_880 : decode cL_law 880 = .ok (.iaload, 1) := by decide +kernel
theorem dL_law_881 : decode cL_law 881 = .ok (.aload_n 0, 1) := by decide +kernel
theorem dL_law_882 : decode cL_law 882 = .ok (.iload_n 3, 1) := by decide +kernel
theorem dL_law_883 : decode cL_law 883 = .ok (.iconst 2, 1) := by decide +kernel
theorem dL_law_884 : decode cL_law 884 = .ok (.iadd, 1) := by decide +kernel
theorem dL_law_885 : decode cL_law 885 = .ok (.iaload, 1) := by decide +kernel
theorem dL_law_886 : decode cL_law 886 = .ok (.aload_n 0, 1) := by decide +kernel
theorem dL_law_887 : decode cL_law 887 = .ok (.iload_n 3, 1) := by decide +kernel
theorem dL_law_888 : decode cL_law 888 = .ok (.iconst 3, 1) := by decide +kernel
theorem dL_law_889 : decode cL_law 889 = .ok (.iadd, 1) := by decide +kernel
theorem dL_law_890 : decode cL_law 890 = .ok (.iaload, 1) := by decide +kernel
theorem dL_law_891 : decode cL_law 891 = .ok (.invokevirtual 117, 3) := by decide +kernel
theorem dL_law_894 : decode cL_law 894 = .ok (.if_icmp .eq 457, 3) := by decide +kernel
theorem dL_law_897 : decode cL_law 897 = .ok (.iconst 0, 1) := by decide +kernel
theorem dL_law_898 : decode cL_law 898 = .ok (.ireturn, 1) := by decide +kernel
theorem dL_law_899 : decode cL_law 899 = .ok (.aload_n 1, 1) := by decide +kernel
theorem dL_law_900 : decode cL_law 900 = .ok (.aload_n 0, 1) := by decide +kernel
theorem dL_law_901 : decode cL_law 901 = .ok (.iload_n 3, 1) := by decide +kernel
theorem dL_law_902 : decode cL_law 902 = .ok (.iconst 1, 1) := by decide +kernel
theorem dL_law_903 : decode cL_law 903 = .ok (.iadd, 1) := by decide +kernel
theorem dL_law_904 : decode cL_law 904 = .ok (.iaload, 1) := by decide +kernel
theorem dL_law_905 : decode cL_law 905 = .ok (.aload_n 0, 1) := by decide +kernel
theorem dL_law_906 : decode cL_law 906 = .ok (.iload_n 3, 1) := by decide +kernel
theorem dL_law_907 : decode cL_law 907 = .ok (.iconst 2, 1) := by decide +kernel
theorem dL_law_908 : decode cL_law 908 = .ok (.iadd, 1) := by decide +kernel
theorem dL_law_909 : decode cL_law 909 = .ok (.iaload, 1) := by decide +kernel
theorem dL_law_910 : decode cL_law 910 = .ok (.aload_n 0, 1) := by decide +kernel
theorem dL_law_911 : decode cL_law 911 = .ok (.iload_n 3, 1) := by decide +kernel
theorem dL_law_912 : decode cL_law 912 = .ok (.iconst 3, 1) := by decide +kernel
theorem dL_law_913 : decode cL_law 913 = .ok (.iadd, 1) := by decide +kernel
theorem dL_law_914 : decode cL_law 914 = .ok (.iaload, 1) := by decide +kernel
theorem dL_law_915 : decode cL_law 915 = .ok (.aload_n 0, 1) := by decide +kernel
theorem dL_law_916 : decode cL_law 916 = .ok (.iload_n 3, 1) := by decide +kernel
theorem dL_law_917 : decode cL_law 917 = .ok (.iconst 4, 1) := by decide +kernel
theorem dL_law_918 : decode cL_law 918 = .ok (.iadd, 1) := by decide +kernel
theorem dL_law_919 : decode cL_law 919 = .ok (.iaload, 1) := by decide +kernel
theorem dL_law_920 : decode cL_law 920 = .ok (.invokevirtual 118, 3) := by decide +kernel
theorem dL_law_923 : decode cL_law 923 = .ok (.aload_n 2, 1) := by decide +kernel
theorem dL_law_924 : decode cL_law 924 = .ok (.aload_n 0, 1) := by decide +kernel
theorem dL_law_925 : decode cL_law 925 = .ok (.iload_n 3, 1) := by decide +kernel
theorem dL_law_926 : decode cL_law 926 = .ok (.iconst 1, 1) := by decide +kernel
theorem dL_law_927 : decode cL_law 927 = .ok (.iadd, 1) := by decide +kernel
theorem dL_law_928 : decode cL_law 928 = .ok (.iaload, 1) := by decide +kernel
theorem dL_law_929 : decode cL_law 929 = .ok (.aload_n 0, 1) := by decide +kernel
theorem dL_law_930 : decode cL_law 930 = .ok (.iload_n 3, 1) := by decide +kernel
theorem dL_law_931 : decode cL_law 931 = .ok (.iconst 2, 1) := by decide +kernel
theorem dL_law_932 : decode cL_law 932 = .ok (.iadd, 1) := by decide +kernel
theorem dL_law_933 : decode cL_law 933 = .ok (.iaload, 1) := by decide +kernel
theorem dL_law_934 : decode cL_law 934 = .ok (.aload_n 0, 1) := by decide +kernel
theorem dL_law_935 : decode cL_law 935 = .ok (.iload_n 3, 1) := by decide +kernel
theorem dL_law_936 : decode cL_law 936 = .ok (.iconst 3, 1) := by decide +kernel
theorem dL_law_937 : decode cL_law 937 = .ok (.iadd, 1) := by decide +kernel
theorem dL_law_938 : decode cL_law 938 = .ok (.iaload, 1) := by decide +kernel
theorem dL_law_939 : decode cL_law 939 = .ok (.aload_n 0, 1) := by decide +kernel
theorem dL_law_940 : decode cL_law 940 = .ok (.iload_n 3, 1) := by decide +kernel
theorem dL_law_941 : decode cL_law 941 = .ok (.iconst 4, 1) := by decide +kernel
theorem dL_law_942 : decode cL_law 942 = .ok (.iadd, 1) := by decide +kernel
theorem dL_law_943 : decode cL_law 943 = .ok (.iaload, 1) := by decide +kernel
theorem dL_law_944 : decode cL_law 944 = .ok (.invokevirtual 121, 3) := by decide +kernel
theorem dL_law_947 : decode cL_law 947 = .ok (.if_icmp .eq 404, 3) := by decide +kernel
theorem dL_law_950 : decode cL_law 950 = .ok (.iconst 0, 1) := by decide +kernel
theorem dL_law_951 : decode cL_law 951 = .ok (.ireturn, 1) := by decide +kernel
theorem dL_law_952 : decode cL_law 952 = .ok (.aload_n 1, 1) := by decide +kernel
theorem dL_law_953 : decode cL_law 953 = .ok (.aload_n 0, 1) := by decide +kernel
theorem dL_law_954 : decode cL_law 954 = .ok (.iload_n 3, 1) := by decide +kernel
theorem dL_law_955 : decode cL_law 955 = .ok (.iconst 1, 1) := by decide +kernel
theorem dL_law_956 : decode cL_law 956 = .ok (.iadd, 1) := by decide +kernel
theorem dL_law_957 : decode cL_law 957 = .ok (.iaload, 1) := by decide +kernel
theorem dL_law_958 : decode cL_law 958 = .ok (.aload_n 0, 1) := by decide +kernel
theorem dL_law_959 : decode cL_law 959 = .ok (.iload_n 3, 1) := by decide +kernel
theorem dL_law_960 : decode cL_law 960 = .ok (.iconst 2, 1) := by decide +kernel
theorem dL_law_961 : decode cL_law 961 = .ok (.iadd, 1) := by decide +kernel
theorem dL_law_962 : decode cL_law 962 = .ok (.iaload, 1) := by decide +kernel
theorem dL_law_963 : decode cL_law 963 = .ok (.aload_n 0, 1) := by decide +kernel
theorem dL_law_964 : decode cL_law 964 = .ok (.iload_n 3, 1) := by decide +kernel
theorem dL_law_965 : decode cL_law 965 = .ok (.iconst 3, 1) := by decide +kernel
theorem dL_law_966 : decode cL_law 966 = .ok (.iadd, 1) := by decide +kernel
theorem dL_law_967 : decode cL_law 967 = .ok (.iaload, 1) := by decide +kernel
theorem dL_law_968 : decode cL_law 968 = .ok (.invokevirtual 122, 3) := by decide +kernel
theorem dL_law_971 : decode cL_law 971 = .ok (.aload_n 2, 1) := by decide +kernel
theorem dL_law_972 : decode cL_law 972 = .ok (.aload_n 0, 1) := by decide +kernel
theorem dL_law_973 : decode cL_law 973 = .ok (.iload_n 3, 1) := by decide +kernel
theorem dL_law_974 : decode cL_law 974 = .ok (.iconst 1, 1) := by decide +kernel
theorem dL_law_975 : decode cL_law 975 = .ok (.iadd, 1) := by decide +kernel
theorem dL_law_976 : decode cL_law 976 = .ok (.iaload, 1) := by decide +kernel
theorem dL_law_977 : decode cL_law 977 = .ok (.aload_n 0, 1) := by decide +kernel
theorem dL_law_978 : decode cL_law 978 = .ok (.iload_n 3, 1) := by decide +kernel
theorem dL_law_979 : decode cL_law 979 = .ok (.iconst 2, 1) := by decide +kernel
theorem dL_law_980 : decode cL_law 980 = .ok (.iadd, 1) := by decide +kernel
theorem dL_law_981 : decode cL_law 981 = .ok (.iaload, 1) := by decide +kernel
theorem dL_law_982 : decode cL_law 982 = .ok (.aload_n 0, 1) := by decide +kernel
theorem dL_law_983 : decode cL_law 983 = .ok (.iload_n 3, 1) := by decide +kernel
theorem dL_law_984 : decode cL_law 984 = .ok (.iconst 3, 1) := by decide +kernel
theorem dL_law_985 : decode cL_law 985 = .ok (.iadd, 1) := by decide +kernel
theorem dL_law_986 : decode cL_law 986 = .ok (.iaload, 1) := by decide +kernel
theorem dL_law_987 : decode cL_law 987 = .ok (.invokevirtual 125, 3) := by decide +kernel
theorem dL_law_990 : decode cL_law 990 = .ok (.if_icmp .eq 361, 3) := by decide +kernel
theorem dL_law_993 : decode cL_law 993 = .ok (.iconst 0, 1) := by decide +kernel
theorem dL_law_994 : decode cL_law 994 = .ok (.ireturn, 1) := by decide +kernel
theorem dL_law_995 : decode cL_law 995 = .ok (.aload_n 1, 1) := by decide +kernel
theorem dL_law_996 : decode cL_law 996 = .ok (.aload_n 0, 1) := by decide +kernel
theorem dL_law_997 : decode cL_law 997 = .ok (.iload_n 3, 1) := by decide +kernel
theorem dL_law_998 : decode cL_law 998 = .ok (.iconst 1, 1) := by decide +kernel
theorem dL_law_999 : decode cL_law 999 = .ok (.iadd, 1) := by decide +kernel
theorem dL_law_1000 : decode cL_law 1000 = .ok (.iaload, 1) := by decide +kernel
theorem dL_law_1001 : decode cL_law 1001 = .ok (.aload_n 0, 1) := by decide +kernel
theorem dL_law_1002 : decode cL_law 1002 = .ok (.iload_n 3, 1) := by decide +kernel
theorem dL_law_1003 : decode cL_law 1003 = .ok (.iconst 2, 1) := by decide +kernel
theorem dL_law_1004 : decode cL_law 1004 = .ok (.iadd, 1) := by decide +kernel
theorem dL_law_1005 : decode cL_law 1005 = .ok (.iaload, 1) := by decide +kernel
theorem dL_law_1006 : decode cL_law 1006 = .ok (.aload_n 0, 1) := by decide +kernel
theorem dL_law_1007 : decode cL_law 1007 = .ok (.iload_n 3, 1) := by decide +kernel
theorem dL_law_1008 : decode cL_law 1008 = .ok (.iconst 3, 1) := by decide +kernel
theorem dL_law_1009 : decode cL_law 1009 = .ok (.iadd, 1) := by decide +kernel
theorem dL_law_1010 : decode cL_law 1010 = .ok (.iaload, 1) := by decide +kernel
theorem dL_law_1011 : decode cL_law 1011 = .ok (.invokevirtual 126, 3) := by decide +kernel
theorem dL_law_1014 : decode cL_law 1014 = .ok (.aload_n 2, 1) := by decide +kernel
theorem dL_law_1015 : decode cL_law 1015 = .ok (.aload_n 0, 1) := by decide +kernel
theorem dL_law_1016 : decode cL_law 1016 = .ok (.iload_n 3, 1) := by decide +kernel
theorem dL_law_1017 : decode cL_law 1017 = .ok (.iconst 1, 1) := by decide +kernel
theorem dL_law_1018 : decode cL_law 1018 = .ok (.iadd, 1) := by decide +kernel
theorem dL_law_1019 : decode cL_law 1019 = .ok (.iaload, 1) := by decide +kernel
theorem dL_law_1020 : decode cL_law 1020 = .ok (.aload_n 0, 1) := by decide +kernel
theorem dL_law_1021 : decode cL_law 1021 = .ok (.iload_n 3, 1) := by decide +kernel
theorem dL_law_1022 : decode cL_law 1022 = .ok (.iconst 2, 1) := by decide +kernel
theorem dL_law_1023 : decode cL_law 1023 = .ok (.iadd, 1) := by decide +kernel
theorem dL_law_1024 : decode cL_law 1024 = .ok (.iaload, 1) := by decide +kernel
theorem dL_law_1025 : decode cL_law 1025 = .ok (.aload_n 0, 1) := by decide +kernel
theorem dL_law_1026 : decode cL_law 1026 = .ok (.iload_n 3, 1) := by decide +kernel
theorem dL_law_1027 : decode cL_law 1027 = .ok (.iconst 3, 1) := by decide +kernel
theorem dL_law_1028 : decode cL_law 1028 = .ok (.iadd, 1) := by decide +kernel
theorem dL_law_1029 : decode cL_law 1029 = .ok (.iaload, 1) := by decide +kernel
theorem dL_law_1030 : decode cL_law 1030 = .ok (.invokevirtual 129, 3) := by decide +kernel
theorem dL_law_1033 : decode cL_law 1033 = .ok (.if_icmp .eq 318, 3) := by decide +kernel
theorem dL_law_1036 : decode cL_law 1036 = .ok (.iconst 0, 1) := by decide +kernel
theorem dL_law_1037 : decode cL_law 1037 = .ok (.ireturn, 1) := by decide +kernel
theorem dL_law_1038 : decode cL_law 1038 = .ok (.aload_n 1, 1) := by decide +kernel
theorem dL_law_1039 : decode cL_law 1039 = .ok (.aload_n 0, 1) := by decide +kernel
theorem dL_law_1040 : decode cL_law 1040 = .ok (.iload_n 3, 1) := by decide +kernel
theorem dL_law_1041 : decode cL_law 1041 = .ok (.iconst 1, 1) := by decide +kernel
theorem dL_law_1042 : decode cL_law 1042 = .ok (.iadd, 1) := by decide +kernel
theorem dL_law_1043 : decode cL_law 1043 = .ok (.iaload, 1) := by decide +kernel
theorem dL_law_1044 : decode cL_law 1044 = .ok (.aload_n 0, 1) := by decide +kernel
theorem dL_law_1045 : decode cL_law 1045 = .ok (.iload_n 3, 1) := by decide +kernel
theorem dL_law_1046 : decode cL_law 1046 = .ok (.iconst 2, 1) := by decide +kernel
theorem dL_law_1047 : decode cL_law 1047 = .ok (.iadd, 1) := by decide +kernel
theorem dL_law_1048 : decode cL_law 1048 = .ok (.iaload, 1) := by decide +kernel
theorem dL_law_1049 : decode cL_law 1049 = .ok (.aload_n 0, 1) := by decide +kernel
theorem dL_law_1050 : decode cL_law 1050 = .ok (.iload_n 3, 1) := by decide +kernel
theorem dL_law_1051 : decode cL_law 1051 = .ok (.iconst 3, 1) := by decide +kernel
theorem dL_law_1052 : decode cL_law 1052 = .ok (.iadd, 1) := by decide +kernel
theorem dL_law_1053 : decode cL_law 1053 = .ok (.iaload, 1) := by decide +kernel
theorem dL_law_1054 : decode cL_law 1054 = .ok (.invokevirtual 130, 3) := by decide +kernel
theorem dL_law_1057 : decode cL_law 1057 = .ok (.aload_n 2, 1) := by decide +kernel
theorem dL_law_1058 : decode cL_law 1058 = .ok (.aload_n 0, 1) := by decide +kernel
theorem dL_law_1059 : decode cL_law 1059 = .ok (.iload_n 3, 1) := by decide +kernel
theorem dL_law_1060 : decode cL_law 1060 = .ok (.iconst 1, 1) := by decide +kernel
theorem dL_law_1061 : decode cL_law 1061 = .ok (.iadd, 1) := by decide +kernel
theorem dL_law_1062 : decode cL_law 1062 = .ok (.iaload, 1) := by decide +kernel
theorem dL_law_1063 : decode cL_law 1063 = .ok (.aload_n 0, 1) := by decide +kernel
theorem dL_law_1064 : decode cL_law 1064 = .ok (.iload_n 3, 1) := by decide +kernel
theorem dL_law_1065 : decode cL_law 1065 = .ok (.iconst 2, 1) := by decide +kernel
theorem dL_law_1066 : decode cL_law 1066 = .ok (.iadd, 1) := by decide +kernel
theorem dL_law_1067 : decode cL_law 1067 = .ok (.iaload, 1) := by decide +kernel
theorem dL_law_1068 : decode cL_law 1068 = .ok (.aload_n 0, 1) := by decide +kernel
theorem dL_law_1069 : decode cL_law 1069 = .ok (.iload_n 3, 1) := by decide +kernel
theorem dL_law_1070 : decode cL_law 1070 = .ok (.iconst 3, 1) := by decide +kernel
theorem dL_law_1071 : decode cL_law 1071 = .ok (.iadd, 1) := by decide +kernel
theorem dL_law_1072 : decode cL_law 1072 = .ok (.iaload, 1) := by decide +kernel
theorem dL_law_1073 : decode cL_law 1073 = .ok (.invokevirtual 133, 3) := by decide +kernel
theorem dL_law_1076 : decode cL_law 1076 = .ok (.if_icmp .eq 275, 3) := by decide +kernel
theorem dL_law_1079 : decode cL_law 1079 = .ok (.iconst 0, 1) := by decide +kernel
theorem dL_law_1080 : decode cL_law 1080 = .ok (.ireturn, 1) := by decide +kernel
theorem dL_law_1081 : decode cL_law 1081 = .ok (.aload_n 1, 1) := by decide +kernel
theorem dL_law_1082 : decode cL_law 1082 = .ok (.aload_n 0, 1) := by decide +kernel
theorem dL_law_1083 : decode cL_law 1083 = .ok (.iload_n 3, 1) := by decide +kernel
theorem dL_law_1084 : decode cL_law 1084 = .ok (.iconst 1, 1) := by decide +kernel
theorem dL_law_1085 : decode cL_law 1085 = .ok (.iadd, 1) := by decide +kernel
theorem dL_law_1086 : decode cL_law 1086 = .ok (.iaload, 1) := by decide +kernel
theorem dL_law_1087 : decode cL_law 1087 = .ok (.aload_n 0, 1) := by decide +kernel
theorem dL_law_1088 : decode cL_law 1088 = .ok (.iload_n 3, 1) := by decide +kernel
theorem dL_law_1089 : decode cL_law 1089 = .ok (.iconst 2, 1) := by decide +kernel
theorem dL_law_1090 : decode cL_law 1090 = .ok (.iadd, 1) := by decide +kernel
theorem dL_law_1091 : decode cL_law 1091 = .ok (.iaload, 1) := by decide +kernel
theorem dL_law_1092 : decode cL_law 1092 = .ok (.invokevirtual 134, 3) := by decide +kernel
theorem dL_law_1095 : decode cL_law 1095 = .ok (.aload_n 2, 1) := by decide +kernel
theorem dL_law_1096 : decode cL_law 1096 = .ok (.aload_n 0, 1) := by decide +kernel
theorem dL_law_1097 : decode cL_law 1097 = .ok (.iload_n 3, 1) := by decide +kernel
theorem dL_law_1098 : decode cL_law 1098 = .ok (.iconst 1, 1) := by decide +kernel
theorem dL_law_1099 : decode cL_law 1099 = .ok (.iadd, 1) := by decide +kernel
theorem dL_law_1100 : decode cL_law 1100 = .ok (.iaload, 1) := by decide +kernel
theorem dL_law_1101 : decode cL_law 1101 = .ok (.aload_n 0, 1) := by decide +kernel
theorem dL_law_1102 : decode cL_law 1102 = .ok (.iload_n 3, 1) := by decide +kernel
theorem dL_law_1103 : decode cL_law 1103 = .ok (.iconst 2, 1) := by decide +kernel
theorem dL_law_1104 : decode cL_law 1104 = .ok (.iadd, 1) := by decide +kernel
theorem dL_law_1105 : decode cL_law 1105 = .ok (.iaload, 1) := by decide +kernel
theorem dL_law_1106 : decode cL_law 1106 = .ok (.invokevirtual 137, 3) := by decide +kernel
theorem dL_law_1109 : decode cL_law 1109 = .ok (.if_icmp .eq 242, 3) := by decide +kernel
theorem dL_law_1112 : decode cL_law 1112 = .ok (.iconst 0, 1) := by decide +kernel
theorem dL_law_1113 : decode cL_law 1113 = .ok (.ireturn, 1) := by decide +kernel
theorem dL_law_1114 : decode cL_law 1114 = .ok (.aload_n 1, 1) := by decide +kernel
theorem dL_law_1115 : decode cL_law 1115 = .ok (.aload_n 0, 1) := by decide +kernel
theorem dL_law_1116 : decode cL_law 1116 = .ok (.iload_n 3, 1) := by decide +kernel
theorem dL_law_1117 : decode cL_law 1117 = .ok (.iconst 1, 1) := by decide +kernel
theorem dL_law_1118 : decode cL_law 1118 = .ok (.iadd, 1) := by decide +kernel
theorem dL_law_1119 : decode cL_law 1119 = .ok (.iaload, 1) := by decide +kernel
theorem dL_law_1120 : decode cL_law 1120 = .ok (.aload_n 0, 1) := by decide +kernel
theorem dL_law_1121 : decode cL_law 1121 = .ok (.iload_n 3, 1) := by decide +kernel
theorem dL_law_1122 : decode cL_law 1122 = .ok (.iconst 2, 1) := by decide +kernel
theorem dL_law_1123 : decode cL_law 1123 = .ok (.iadd, 1) := by decide +kernel
theorem dL_law_1124 : decode cL_law 1124 = .ok (.iaload, 1) := by decide +kernel
theorem dL_law_1125 : decode cL_law 1125 = .ok (.invokevirtual 138, 3) := by decide +kernel
theorem dL_law_1128 : decode cL_law 1128 = .ok (.aload_n 2, 1) := by decide +kernel
theorem dL_law_1129 : decode cL_law 1129 = .ok (.aload_n 0, 1) := by decide +kernel
theorem dL_law_1130 : decode cL_law 1130 = .ok (.iload_n 3, 1) := by decide +kernel
theorem dL_law_1131 : decode cL_law 1131 = .ok (.iconst 1, 1) := by decide +kernel
theorem dL_law_1132 : decode cL_law 1132 = .ok (.iadd, 1) := by decide +kernel
theorem dL_law_1133 : decode cL_law 1133 = .ok (.iaload, 1) := by decide +kernel
theorem dL_law_1134 : decode cL_law 1134 = .ok (.aload_n 0, 1) := by decide +kernel
theorem dL_law_1135 : decode cL_law 1135 = .ok (.iload_n 3, 1) := by decide +kernel
theorem dL_law_1136 : decode cL_law 1136 = .ok (.iconst 2, 1) := by decide +kernel
theorem dL_law_1137 : decode cL_law 1137 = .ok (.iadd, 1) := by decide +kernel
theorem dL_law_1138 : decode cL_law 1138 = .ok (.iaload, 1) := by decide +kernel
theorem dL_law_1139 : decode cL_law 1139 = .ok (.invokevirtual 141, 3) := by decide +kernel
theorem dL_law_1142 : decode cL_law 1142 = .ok (.if_icmp .eq 209, 3) := by decide +kernel
theorem dL_law_1145 : decode cL_law 1145 = .ok (.iconst 0, 1) := by decide +kernel
theorem dL_law_1146 : decode cL_law 1146 = .ok (.ireturn, 1) := by decide +kernel
theorem dL_law_1147 : decode cL_law 1147 = .ok (.aload_n 1, 1) := by decide +kernel
theorem dL_law_1148 : decode cL_law 1148 = .ok (.aload_n 0, 1) := by decide +kernel
theorem dL_law_1149 : decode cL_law 1149 = .ok (.iload_n 3, 1) := by decide +kernel
theorem dL_law_1150 : decode cL_law 1150 = .ok (.iconst 1, 1) := by decide +kernel
theorem dL_law_1151 : decode cL_law 1151 = .ok (.iadd, 1) := by decide +kernel
theorem dL_law_1152 : decode cL_law 1152 = .ok (.iaload, 1) := by decide +kernel
theorem dL_law_1153 : decode cL_law 1153 = .ok (.invokevirtual 142, 3) := by decide +kernel
theorem dL_law_1156 : decode cL_law 1156 = .ok (.aload_n 2, 1) := by decide +kernel
theorem dL_law_1157 : decode cL_law 1157 = .ok (.aload_n 0, 1) := by decide +kernel
theorem dL_law_1158 : decode cL_law 1158 = .ok (.iload_n 3, 1) := by decide +kernel
theorem dL_law_1159 : decode cL_law 1159 = .ok (.iconst 1, 1) := by decide +kernel
theorem dL_law_1160 : decode cL_law 1160 = .ok (.iadd, 1) := by decide +kernel
theorem dL_law_1161 : decode cL_law 1161 = .ok (.iaload, 1) := by decide +kernel
theorem dL_law_1162 : decode cL_law 1162 = .ok (.invokevirtual 145, 3) := by decide +kernel
theorem dL_law_1165 : decode cL_law 1165 = .ok (.if_icmp .eq 186, 3) := by decide +kernel
theorem dL_law_1168 : decode cL_law 1168 = .ok (.iconst 0, 1) := by decide +kernel
theorem dL_law_1169 : decode cL_law 1169 = .ok (.ireturn, 1) := by decide +kernel
theorem dL_law_1170 : decode cL_law 1170 = .ok (.aload_n 1, 1) := by decide +kernel
theorem dL_law_1171 : decode cL_law 1171 = .ok (.invokevirtual 146, 3) := by decide +kernel
theorem dL_law_1174 : decode cL_law 1174 = .ok (.aload_n 2, 1) := by decide +kernel
theorem dL_law_1175 : decode cL_law 1175 = .ok (.invokevirtual 149, 3) := by decide +kernel
theorem dL_law_1178 : decode cL_law 1178 = .ok (.if_icmp .eq 173, 3) := by decide +kernel
theorem dL_law_1181 : decode cL_law 1181 = .ok (.iconst 0, 1) := by decide +kernel
theorem dL_law_1182 : decode cL_law 1182 = .ok (.ireturn, 1) := by decide +kernel
theorem dL_law_1183 : decode cL_law 1183 = .ok (.aload_n 1, 1) := by decide +kernel
theorem dL_law_1184 : decode cL_law 1184 = .ok (.invokevirtual 150, 3) := by decide +kernel
theorem dL_law_1187 : decode cL_law 1187 = .ok (.aload_n 2, 1) := by decide +kernel
theorem dL_law_1188 : decode cL_law 1188 = .ok (.invokevirtual 153, 3) := by decide +kernel
theorem dL_law_1191 : decode cL_law 1191 = .ok (.if_icmp .eq 160, 3) := by decide +kernel
theorem dL_law_1194 : decode cL_law 1194 = .ok (.iconst 0, 1) := by decide +kernel
theorem dL_law_1195 : decode cL_law 1195 = .ok (.ireturn, 1) := by decide +kernel
theorem dL_law_1196 : decode cL_law 1196 = .ok (.aload_n 1, 1) := by decide +kernel
theorem dL_law_1197 : decode cL_law 1197 = .ok (.aload_n 0, 1) := by decide +kernel
theorem dL_law_1198 : decode cL_law 1198 = .ok (.iload_n 3, 1) := by decide +kernel
theorem dL_law_1199 : decode cL_law 1199 = .ok (.iconst 1, 1) := by decide +kernel
theorem dL_law_1200 : decode cL_law 1200 = .ok (.iadd, 1) := by decide +kernel
theorem dL_law_1201 : decode cL_law 1201 = .ok (.iaload, 1) := by decide +kernel
theorem dL_law_1202 : decode cL_law 1202 = .ok (.aload_n 0, 1) := by decide +kernel
theorem dL_law_1203 : decode cL_law 1203 = .ok (.iload_n 3, 1) := by decide +kernel
theorem dL_law_1204 : decode cL_law 1204 = .ok (.iconst 2, 1) := by decide +kernel
theorem dL_law_1205 : decode cL_law 1205 = .ok (.iadd, 1) := by decide +kernel
theorem dL_law_1206 : decode cL_law 1206 = .ok (.iaload, 1) := by decide +kernel
theorem dL_law_1207 : decode cL_law 1207 = .ok (.invokevirtual 154, 3) := by decide +kernel
theorem dL_law_1210 : decode cL_law 1210 = .ok (.aload_n 2, 1) := by decide +kernel
theorem dL_law_1211 : decode cL_law 1211 = .ok (.aload_n 0, 1) := by decide +kernel
theorem dL_law_1212 : decode cL_law 1212 = .ok (.iload_n 3, 1) := by decide +kernel
theorem dL_law_1213 : decode cL_law 1213 = .ok (.iconst 1, 1) := by decide +kernel
theorem dL_law_1214 : decode cL_law 1214 = .ok (.iadd, 1) := by decide +kernel
theorem dL_law_1215 : decode cL_law 1215 = .ok (.iaload, 1) := by decide +kernel
theorem dL_law_1216 : decode cL_law 1216 = .ok (.aload_n 0, 1) := by decide +kernel
theorem dL_law_1217 : decode cL_law 1217 = .ok (.iload_n 3, 1) := by decide +kernel
theorem dL_law_1218 : decode cL_law 1218 = .ok (.iconst 2, 1) := by decide +kernel
theorem dL_law_1219 : decode cL_law 1219 = .ok (.iadd, 1) := by decide +kernel
theorem dL_law_1220 : decode cL_law 1220 = .ok (.iaload, 1) := by decide +kernel
theorem dL_law_1221 : decode cL_law 1221 = .ok (.invokevirtual 157, 3) := by decide +kernel
theorem dL_law_1224 : decode cL_law 1224 = .ok (.if_icmp .eq 127, 3) := by decide +kernel
theorem dL_law_1227 : decode cL_law 1227 = .ok (.iconst 0, 1) := by decide +kernel
theorem dL_law_1228 : decode cL_law 1228 = .ok (.ireturn, 1) := by decide +kernel
theorem dL_law_1229 : decode cL_law 1229 = .ok (.aload_n 1, 1) := by decide +kernel
theorem dL_law_1230 : decode cL_law 1230 = .ok (.aload_n 0, 1) := by decide +kernel
theorem dL_law_1231 : decode cL_law 1231 = .ok (.iload_n 3, 1) := by decide +kernel
theorem dL_law_1232 : decode cL_law 1232 = .ok (.iconst 1, 1) := by decide +kernel
theorem dL_law_1233 : decode cL_law 1233 = .ok (.iadd, 1) := by decide +kernel
theorem dL_law_1234 : decode cL_law 1234 = .ok (.iaload, 1) := by decide +kernel
theorem dL_law_1235 : decode cL_law 1235 = .ok (.aload_n 0, 1) := by decide +kernel
theorem dL_law_1236 : decode cL_law 1236 = .ok (.iload_n 3, 1) := by decide +kernel
theorem dL_law_1237 : decode cL_law 1237 = .ok (.iconst 2, 1) := by decide +kernel
theorem dL_law_1238 : decode cL_law 1238 = .ok (.iadd, 1) := by decide +kernel
theorem dL_law_1239 : decode cL_law 1239 = .ok (.iaload, 1) := by decide +kernel
theorem dL_law_1240 : decode cL_law 1240 = .ok (.invokevirtual 158, 3) := by decide +kernel
theorem dL_law_1243 : decode cL_law 1243 = .ok (.aload_n 2, 1) := by decide +kernel
theorem dL_law_1244 : decode cL_law 1244 = .ok (.aload_n 0, 1) := by decide +kernel
theorem dL_law_1245 : decode cL_law 1245 = .ok (.iload_n 3, 1) := by decide +kernel
theorem dL_law_1246 : decode cL_law 1246 = .ok (.iconst 1, 1) := by decide +kernel
theorem dL_law_1247 : decode cL_law 1247 = .ok (.iadd, 1) := by decide +kernel
theorem dL_law_1248 : decode cL_law 1248 = .ok (.iaload, 1) := by decide +kernel
theorem dL_law_1249 : decode cL_law 1249 = .ok (.aload_n 0, 1) := by decide +kernel
theorem dL_law_1250 : decode cL_law 1250 = .ok (.iload_n 3, 1) := by decide +kernel
theorem dL_law_1251 : decode cL_law 1251 = .ok (.iconst 2, 1) := by decide +kernel
theorem dL_law_1252 : decode cL_law 1252 = .ok (.iadd, 1) := by decide +kernel
theorem dL_law_1253 : decode cL_law 1253 = .ok (.iaload, 1) := by decide +kernel
theorem dL_law_1254 : decode cL_law 1254 = .ok (.invokevirtual 161, 3) := by decide +kernel
theorem dL_law_1257 : decode cL_law 1257 = .ok (.if_icmp .eq 94, 3) := by decide +kernel
theorem dL_law_1260 : decode cL_law 1260 = .ok (.iconst 0, 1) := by decide +kernel
theorem dL_law_1261 : decode cL_law 1261 = .ok (.ireturn, 1) := by decide +kernel
theorem dL_law_1262 : decode cL_law 1262 = .ok (.aload_n 1, 1) := by decide +kernel
theorem dL_law_1263 : decode cL_law 1263 = .ok (.aload_n 0, 1) := by decide +kernel
theorem dL_law_1264 : decode cL_law 1264 = .ok (.iload_n 3, 1) := by decide +kernel
theorem dL_law_1265 : decode cL_law 1265 = .ok (.iconst 1, 1) := by decide +kernel
theorem dL_law_1266 : decode cL_law 1266 = .ok (.iadd, 1) := by decide +kernel
theorem dL_law_1267 : decode cL_law 1267 = .ok (.iaload, 1) := by decide +kernel
theorem dL_law_1268 : decode cL_law 1268 = .ok (.aload_n 0, 1) := by decide +kernel
theorem dL_law_1269 : decode cL_law 1269 = .ok (.iload_n 3, 1) := by decide +kernel
theorem dL_law_1270 : decode cL_law 1270 = .ok (.iconst 2, 1) := by decide +kernel
theorem dL_law_1271 : decode cL_law 1271 = .ok (.iadd, 1) := by decide +kernel
theorem dL_law_1272 : decode cL_law 1272 = .ok (.iaload, 1) := by decide +kernel
theorem dL_law_1273 : decode cL_law 1273 = .ok (.invokevirtual 162, 3) := by decide +kernel
theorem dL_law_1276 : decode cL_law 1276 = .ok (.aload_n 2, 1) := by decide +kernel
theorem dL_law_1277 : decode cL_law 1277 = .ok (.aload_n 0, 1) := by decide +kernel
theorem dL_law_1278 : decode cL_law 1278 = .ok (.iload_n 3, 1) := by decide +kernel
theorem dL_law_1279 : decode cL_law 1279 = .ok (.iconst 1, 1) := by decide +kernel
theorem dL_law_1280 : decode cL_law 1280 = .ok (.iadd, 1) := by decide +kernel
theorem dL_law_1281 : decode cL_law 1281 = .ok (.iaload, 1) := by decide +kernel
theorem dL_law_1282 : decode cL_law 1282 = .ok (.aload_n 0, 1) := by decide +kernel
theorem dL_law_1283 : decode cL_law 1283 = .ok (.iload_n 3, 1) := by decide +kernel
theorem dL_law_1284 : decode cL_law 1284 = .ok (.iconst 2, 1) := by decide +kernel
theorem dL_law_1285 : decode cL_law 1285 = .ok (.iadd, 1) := by decide +kernel
theorem dL_law_1286 : decode cL_law 1286 = .ok (.iaload, 1) := by decide +kernel
theorem dL_law_1287 : decode cL_law 1287 = .ok (.invokevirtual 165, 3) := by decide +kernel
theorem dL_law_1290 : decode cL_law 1290 = .ok (.if_icmp .eq 61, 3) := by decide +kernel
theorem dL_law_1293 : decode cL_law 1293 = .ok (.iconst 0, 1) := by decide +kernel
theorem dL_law_1294 : decode cL_law 1294 = .ok (.ireturn, 1) := by decide +kernel
theorem dL_law_1295 : decode cL_law 1295 = .ok (.aload_n 1, 1) := by decide +kernel
theorem dL_law_1296 : decode cL_law 1296 = .ok (.aload_n 0, 1) := by decide +kernel
theorem dL_law_1297 : decode cL_law 1297 = .ok (.iload_n 3, 1) := by decide +kernel
theorem dL_law_1298 : decode cL_law 1298 = .ok (.iconst 1, 1) := by decide +kernel
theorem dL_law_1299 : decode cL_law 1299 = .ok (.iadd, 1) := by decide +kernel
theorem dL_law_1300 : decode cL_law 1300 = .ok (.iaload, 1) := by decide +kernel
theorem dL_law_1301 : decode cL_law 1301 = .ok (.aload_n 0, 1) := by decide +kernel
theorem dL_law_1302 : decode cL_law 1302 = .ok (.iload_n 3, 1) := by decide +kernel
theorem dL_law_1303 : decode cL_law 1303 = .ok (.iconst 2, 1) := by decide +kernel
theorem dL_law_1304 : decode cL_law 1304 = .ok (.iadd, 1) := by decide +kernel
theorem dL_law_1305 : decode cL_law 1305 = .ok (.iaload, 1) := by decide +kernel
theorem dL_law_1306 : decode cL_law 1306 = .ok (.invokevirtual 166, 3) := by decide +kernel
theorem dL_law_1309 : decode cL_law 1309 = .ok (.aload_n 2, 1) := by decide +kernel
theorem dL_law_1310 : decode cL_law 1310 = .ok (.aload_n 0, 1) := by decide +kernel
theorem dL_law_1311 : decode cL_law 1311 = .ok (.iload_n 3, 1) := by decide +kernel
theorem dL_law_1312 : decode cL_law 1312 = .ok (.iconst 1, 1) := by decide +kernel
theorem dL_law_1313 : decode cL_law 1313 = .ok (.iadd, 1) := by decide +kernel
theorem dL_law_1314 : decode cL_law 1314 = .ok (.iaload, 1) := by decide +kernel
theorem dL_law_1315 : decode cL_law 1315 = .ok (.aload_n 0, 1) := by decide +kernel
theorem dL_law_1316 : decode cL_law 1316 = .ok (.iload_n 3, 1) := by decide +kernel
theorem dL_law_1317 : decode cL_law 1317 = .ok (.iconst 2, 1) := by decide +kernel
theorem dL_law_1318 : decode cL_law 1318 = .ok (.iadd, 1) := by decide +kernel
theorem dL_law_1319 : decode cL_law 1319 = .ok (.iaload, 1) := by decide +kernel
theorem dL_law_1320 : decode cL_law 1320 = .ok (.invokevirtual 169, 3) := by decide +kernel
theorem dL_law_1323 : decode cL_law 1323 = .ok (.if_icmp .eq 28, 3) := by decide +kernel
theorem dL_law_1326 : decode cL_law 1326 = .ok (.iconst 0, 1) := by decide +kernel
theorem dL_law_1327 : decode cL_law 1327 = .ok (.ireturn, 1) := by decide +kernel
theorem dL_law_1328 : decode cL_law 1328 = .ok (.aload_n 1, 1) := by decide +kernel
theorem dL_law_1329 : decode cL_law 1329 = .ok (.aload_n 0, 1) := by decide +kernel
theorem dL_law_1330 : decode cL_law 1330 = .ok (.iload_n 3, 1) := by decide +kernel
theorem dL_law_1331 : decode cL_law 1331 = .ok (.iconst 1, 1) := by decide +kernel
theorem dL_law_1332 : decode cL_law 1332 = .ok (.iadd, 1) := by decide +kernel
theorem dL_law_1333 : decode cL_law 1333 = .ok (.iaload, 1) := by decide +kernel
theorem dL_law_1334 : decode cL_law 1334 = .ok (.invokevirtual 170, 3) := by decide +kernel
theorem dL_law_1337 : decode cL_law 1337 = .ok (.aload_n 2, 1) := by decide +kernel
theorem dL_law_1338 : decode cL_law 1338 = .ok (.aload_n 0, 1) := by decide +kernel
theorem dL_law_1339 : decode cL_law 1339 = .ok (.iload_n 3, 1) := by decide +kernel
theorem dL_law_1340 : decode cL_law 1340 = .ok (.iconst 1, 1) := by decide +kernel
theorem dL_law_1341 : decode cL_law 1341 = .ok (.iadd, 1) := by decide +kernel
theorem dL_law_1342 : decode cL_law 1342 = .ok (.iaload, 1) := by decide +kernel
theorem dL_law_1343 : decode cL_law 1343 = .ok (.invokevirtual 173, 3) := by decide +kernel
theorem dL_law_1346 : decode cL_law 1346 = .ok (.if_icmp .eq 5, 3) := by decide +kernel
theorem dL_law_1349 : decode cL_law 1349 = .ok (.iconst 0, 1) := by decide +kernel
theorem dL_law_1350 : decode cL_law 1350 = .ok (.ireturn, 1) := by decide +kernel
theorem dL_law_1351 : decode cL_law 1351 = .ok (.iinc 3 5, 3) := by decide +kernel
theorem dL_law_1354 : decode cL_law 1354 = .ok (.goto (-1336), 3) := by decide +kernel
theorem dL_law_1357 : decode cL_law 1357 = .ok (.iconst 1, 1) := by decide +kernel
theorem dL_law_1358 : decode cL_law 1358 = .ok (.ireturn, 1) := by decide +kernel
end
section
/-! ===== MY FRAME: a side's state is a number for each place of each cell; its world is a list of cells ===== -/
abbrev St : Type := Nat → Nat → Int32
abbrev Shp : Type := (Nat × Bool) ⊕ (Nat × List (Option Nat))
def pw_slot (ad : Nat → Nat) (f : Nat → Int32) (o : Option Nat) (k : Nat) : Value := match o with
  | some c => .ref (ad c)
  | none => .int (f k)
def pw_obj (ad : Nat → Nat) (f : Nat → Int32) : List (Option Nat) → Nat → List Value
  | [], _ => []
  | o :: os, k => pw_slot ad f o k :: pw_obj ad f os (k + 1)
def pw_cell (cI cZ : ClassId) (ad : Nat → Nat) (f : Nat → Int32) (x : Shp) : va_E := match x with
  | .inl (n, false) => .inl (cI, n, .inl f)
  | .inl (n, true) => .inl (cZ, n, .inl f)
  | .inr (ci, fs) => .inr (ci, pw_obj ad f fs 0)
def pw_w (sh : List Shp) (cI cZ : ClassId) (ad : Nat → Nat) (σ : St) : va_W := sh.mapIdx (fun c x => (ad c, pw_cell cI cZ ad (σ c) x))
def up2 (σ : St) (c j : Nat) (v : Int32) : St := va_up σ c (upd (σ c) j v)
theorem pw_get {sh : List Shp} {cI cZ : ClassId} {ad : Nat → Nat} {σ : St} {c : Nat} {x : Shp} (h : sh[c]? = some x) : (pw_w sh cI cZ ad σ)[c]? = some (ad c, pw_cell cI cZ ad (σ c) x) := by
  simp [pw_w, List.getElem?_mapIdx, h]
theorem pw_set {sh : List Shp} {cI cZ : ClassId} {ad : Nat → Nat} {σ : St} {c : Nat} {x : Shp} (h : sh[c]? = some x) {e : va_E} {g : Nat → Int32} (he : pw_cell cI cZ ad g x = e) : (pw_w sh cI cZ ad σ).set c (ad c, e) = pw_w sh cI cZ ad (va_up σ c g) := by
  subst he
  apply List.ext_getElem?
  intro i
  have hc : c < sh.length := (List.getElem?_eq_some_iff.mp h).1
  rw [List.getElem?_set]
  by_cases hi : c = i
  · subst hi
    rw [pw_get (σ := va_up σ c g) h]
    simp [pw_w, hc, va_up]
  · have hi' : ¬ i = c := fun q => hi q.symm
    simp [pw_w, List.getElem?_mapIdx, hi, va_up, hi']
theorem pw_obj_get (ad : Nat → Nat) (f : Nat → Int32) : ∀ (fs : List (Option Nat)) (i k : Nat), (pw_obj ad f fs i)[k]? = fs[k]?.map (fun o => pw_slot ad f o (i + k))
  | [], _, _ => by simp [pw_obj]
  | o :: os, i, 0 => by simp [pw_obj]
  | o :: os, i, k + 1 => by
    have h := pw_obj_get ad f os (i + 1) k
    simp only [pw_obj, List.getElem?_cons_succ, h]
    rw [show i + 1 + k = i + (k + 1) by omega]
theorem pw_obj_len (ad : Nat → Nat) (f : Nat → Int32) : ∀ (fs : List (Option Nat)) (i : Nat), (pw_obj ad f fs i).length = fs.length
  | [], _ => rfl
  | o :: os, i => by simp [pw_obj, pw_obj_len ad f os (i + 1)]
theorem pw_obj_set (ad : Nat → Nat) (f : Nat → Int32) (fs : List (Option Nat)) (k : Nat) (v : Int32) (h : fs[k]? = some none) : (pw_obj ad f fs 0).set k (.int v) = pw_obj ad (upd f k v) fs 0 := by
  apply List.ext_getElem?
  intro i
  rw [List.getElem?_set, pw_obj_get, pw_obj_get, pw_obj_len]
  have hk : k < fs.length := (List.getElem?_eq_some_iff.mp h).1
  by_cases hi : k = i
  · subst hi
    rw [if_pos rfl, if_pos hk, h]
    simp [pw_slot, upd]
  · have hi' : ¬ i = k := fun q => hi q.symm
    simp only [hi, if_false, Nat.zero_add]
    congr 1
    funext o
    cases o <;> simp [pw_slot, upd, hi']
/-- the pure steps: what may fail answers none -/
def rd {α : Type} (σ : St) (k n : Nat) (i : Int32) (F : Int32 → Option α) : Option α := if i < 0 ∨ n ≤ i.toNatClampNeg then none else F (σ k i.toNatClampNeg)
def wr {α : Type} (σ : St) (k n : Nat) (i v : Int32) (F : St → Option α) : Option α := if i < 0 ∨ n ≤ i.toNatClampNeg then none else F (up2 σ k i.toNatClampNeg v)
def wb {α : Type} (σ : St) (k n : Nat) (i v : Int32) (F : St → Option α) : Option α := if i < 0 ∨ n ≤ i.toNatClampNeg then none else F (up2 σ k i.toNatClampNeg (vp_nar .boolean v))
def pf {α : Type} (σ : St) (k j : Nat) (v : Int32) (F : St → Option α) : Option α := F (up2 σ k j v)
def cal {α : Type} (X : Option (Int32 × St)) (F : Int32 → St → Option α) : Option α := X.bind (fun q => F q.1 q.2)
def nz {α : Type} (b : Int32) (F : Option α) : Option α := if b = 0 then none else F
def tb {α : Type} (f : Nat → Int32) (n : Nat) (i : Int32) (F : Int32 → Option α) : Option α := if i < 0 ∨ n ≤ i.toNatClampNeg then none else F (f i.toNatClampNeg)
def zr (v : Int32) (σ : St) : Option (Int32 × St) := if v = 0 ∨ v = 1 then some (v, σ) else none
def FU : Nat := 10000
theorem pw_t {c : Prop} [Decidable c] {α : Type} {A B : Option α} {z : α} (hc : c) (h : (if c then A else B) = some z) : A = some z := by rwa [if_pos hc] at h
theorem pw_f {c : Prop} [Decidable c] {α : Type} {A B : Option α} {z : α} (hc : ¬ c) (h : (if c then A else B) = some z) : B = some z := by rwa [if_neg hc] at h
theorem cal_some {α : Type} {X : Option (Int32 × St)} {F : Int32 → St → Option α} {z : α} (h : cal X F = some z) : ∃ (r : Int32) (σ : St), X = some (r, σ) ∧ F r σ = some z := by
  unfold cal at h
  cases X with
  | none => cases h
  | some q => exact ⟨q.1, q.2, rfl, h⟩
theorem nz_some {α : Type} {b : Int32} {F : Option α} {z : α} (h : nz b F = some z) : ¬ b = 0 ∧ F = some z := by
  unfold nz at h
  by_cases hb : b = 0
  · rw [if_pos hb] at h; cases h
  · rw [if_neg hb] at h; exact ⟨hb, h⟩
theorem zr_some {v : Int32} {σ : St} {z : Int32 × St} (h : zr v σ = some z) : (v = 0 ∨ v = 1) ∧ (v, σ) = z := by
  unfold zr at h
  by_cases hb : v = 0 ∨ v = 1
  · rw [if_pos hb] at h; exact ⟨hb, Option.some.inj h⟩
  · rw [if_neg hb] at h; cases h
/-- the words that every method may use -/
def gT : List Cond := lw_tbl.filter goodWord
theorem in_gT {w : Cond} {i : Nat} (h : tables_1[i]? = some w) (hg : goodWord w = true) : w ∈ gT := List.mem_filter.mpr ⟨List.mem_append_right _ (List.mem_of_getElem? h), hg⟩
theorem in_gS {w : Cond} (h : w ∈ k2_sels lw_privs) (hg : goodWord w = true) : w ∈ gT := List.mem_filter.mpr ⟨List.mem_append_left _ h, hg⟩
def pw_ws (y : MethodName) (bytes : ByteArray) (maxL : Nat) (ret : Option FieldType) : List Cond := Cond.code y bytes maxL ret :: gT
theorem gT_good {w : Cond} (h : w ∈ gT) : (w.onTables && w.keeps) = true ∨ ∃ ty, w = .arrayClass ty := good_of_word (List.mem_filter.mp h).2
theorem gT_in {Ts : List Cond} (hT : ∀ w ∈ gT, w ∈ Ts) {y : MethodName} {bytes : ByteArray} {maxL : Nat} {ret : Option FieldType} (hc : Cond.code y bytes maxL ret ∈ gT) : GoodIn Ts (pw_ws y bytes maxL ret) := by
  intro w hw
  rcases List.mem_cons.mp hw with rfl | h
  · exact ⟨hT _ hc, gT_good hc⟩
  · exact ⟨hT _ h, gT_good h⟩
/-- the links of nest mates, which are carried beside -/
def pw_isn : Cond → Bool
  | .fieldLinkNest _ _ _ _ _ _ => true
  | .methodLinkNest _ _ _ _ => true
  | _ => false
def pw_nw : List Cond := tables_1.filter pw_isn
theorem in_nw {w : Cond} {i : Nat} (h : tables_1[i]? = some w) (hg : pw_isn w = true) : w ∈ pw_nw := List.mem_filter.mpr ⟨List.mem_of_getElem? h, hg⟩
def pw_N (U : State) : Prop := ∀ w ∈ pw_nw, va_Nw w U
theorem pw_isn_cases {w : Cond} (h : pw_isn w = true) : (∃ a i b n d q, w = .fieldLinkNest a i b n d q) ∨ ∃ a i x q, w = .methodLinkNest a i x q := by
  cases w <;> first | exact Or.inl ⟨_, _, _, _, _, _, rfl⟩ | exact Or.inr ⟨_, _, _, _, rfl⟩ | (exact absurd h (by decide)) | (simp [pw_isn] at h)
theorem pw_N.warm {s U : State} (h : pw_N s) (hW : s.WarmedH U.vm) : pw_N U := by
  intro w hw
  rcases pw_isn_cases (List.mem_filter.mp hw).2 with ⟨a, i, b, n, d, q, rfl⟩ | ⟨a, i, x, q, rfl⟩
  · exact va_Nw.warmF hW (h _ hw)
  · exact va_Nw.warmM hW (h _ hw)
theorem pw_N.same {u U : State} (h : pw_N u) (hv : u.vm = U.vm) : pw_N U := by
  intro w hw
  rcases pw_isn_cases (List.mem_filter.mp hw).2 with ⟨a, i, b, n, d, q, rfl⟩ | ⟨a, i, x, q, rfl⟩
  · exact va_Nw.same rfl hv (h _ hw)
  · exact va_Nw.same rfl hv (h _ hw)
abbrev pw_ty (cI cZ : ClassId) : List (ClassId × FieldType) := [(cI, .int), (cZ, .boolean)]
/-- the world at a heap: the cells are there, apart and in A; nothing else changed since H0 -/
def pw_H (D : va_G) (w : va_W) (A : Nat → Prop) (H0 H : Heap) (locs : List Loc) : Prop := va_P D vwCl w H ∧ va_D A w ∧ va_S A H0 H locs ∧ ∀ q : Nat, H0.size ≤ q → A q
def pw_Pre (D : va_G) (cI cZ : ClassId) (w : va_W) (sz : Nat) (U : State) : Prop := U.heap.size = sz ∧ va_P D vwCl w U.heap ∧ va_K D vwCl (pw_ty cI cZ) U ∧ pw_N U ∧ va_D (fun _ => True) w
abbrev pw_B (D : va_G) (wf : St → va_W) (A : Nat → Prop) (u : St) (t : State) : Prop := va_P D vwCl (wf u) t.heap ∧ va_D A (wf u)
/-- the contracts: an int (or a boolean) comes back, or nothing -/
def pw_MI (l : Launch) (D : va_G) (sh : List Shp) (cI cZ : ClassId) (ad : Nat → Nat) (y : MethodName) (bytes : ByteArray) (maxL : Nat) (ret : Option FieldType) (rm : Room) (av : List Value) (σ : St) (r : Int32) (σ' : St) : Prop :=
  ∀ sz : Nat, Met l y (pw_ws y bytes maxL ret) rm (va_Pc av (pw_Pre D cI cZ (pw_w sh cI cZ ad σ) sz)) (va_Qi (fun (r' : Int32) (u : St) => r' = r ∧ u = σ') (pw_B D (pw_w sh cI cZ ad) (va_A (pw_w sh cI cZ ad σ) sz)) (va_A (pw_w sh cI cZ ad σ) sz)) 0 0 (va_A (pw_w sh cI cZ ad σ) sz)
def pw_MV (l : Launch) (D : va_G) (sh : List Shp) (cI cZ : ClassId) (ad : Nat → Nat) (y : MethodName) (bytes : ByteArray) (maxL : Nat) (ret : Option FieldType) (rm : Room) (av : List Value) (σ : St) (σ' : St) : Prop :=
  ∀ sz : Nat, Met l y (pw_ws y bytes maxL ret) rm (va_Pc av (pw_Pre D cI cZ (pw_w sh cI cZ ad σ) sz)) (va_Qv (fun (u : St) => u = σ') (pw_B D (pw_w sh cI cZ ad) (va_A (pw_w sh cI cZ ad σ) sz)) (va_A (pw_w sh cI cZ ad σ) sz)) 0 0 (va_A (pw_w sh cI cZ ad σ) sz)
def pw_rm (d : Nat) : Room := { frames := d, cells := 0, slots := 0, locals := 60 * d }
/-- what holds all through a method's body -/
def pw_C (p : Program) (s : State) (m : MethodId) (args : Array Value) (meth : Method) (c : Code) (own : String) (cc : ByteArray) (maxL : Nat) (ret : Option FieldType) (D : va_G) (cI cZ : ClassId) : Prop :=
  p.tables.exec = Jvm.exec ∧ c.code = cc ∧ meth.sig.returnType = ret ∧ (∀ w ∈ gT, w.before args s = true) ∧ s.vm.findClass own = some m.cls ∧ meth.locks = false ∧ c.maxLocals = maxL ∧ va_K D vwCl (pw_ty cI cZ) s ∧ pw_N s
def pw_QI (below : List Frame) (args : Array Value) (s : State) (D : va_G) (wf : St → va_W) (A : Nat → Prop) (z : Int32 × St) : State → Prop :=
  MQ below (va_Qi (fun (r' : Int32) (u : St) => r' = z.1 ∧ u = z.2) (pw_B D wf A) A) args s 0 0 A
def pw_QV (below : List Frame) (args : Array Value) (s : State) (D : va_G) (wf : St → va_W) (A : Nat → Prop) (z : Int32 × St) : State → Prop :=
  MQ below (va_Qv (fun (u : St) => u = z.2) (pw_B D wf A) A) args s 0 0 A
theorem pw_blind {D : va_G} {cI cZ : ClassId} {w : va_W} {sz : Nat} {av : List Value} : FrameBlind (va_Pc av (pw_Pre D cI cZ w sz)) := by
  intro a U g mk q
  obtain ⟨q0, q1, qP, qK, qN, qD⟩ := q
  exact ⟨q0, q1, qP, va_K.moved (u := U) (U := U.calling g mk a) (Vm.Alike.refl U.vm) qK, qN.same rfl, qD⟩
theorem pw_atC {p : Program} {l : Launch} {y : MethodName} {bytes : ByteArray} {maxL : Nat} {ret : Option FieldType} {rm : Room} {e : Env} {s : State} {m : MethodId} {args : Array Value} {below : List Frame} {meth : Method} {c : Code} {s₁ : State} {D : va_G} {cI cZ : ClassId}
    (B : BodyLoose p l y (headSpec (pw_ws y bytes maxL ret) rm) bytes maxL ret e s m args below meth c s₁) (hml : c.maxLocals = maxL) (hK : va_K D vwCl (pw_ty cI cZ) s) (hN : pw_N s) : pw_C p s m args meth c y.cls bytes maxL ret D cI cZ :=
  ⟨B.exec, B.bytes, B.returns, fun w hw => atoms_spec (ws := pw_ws y bytes maxL ret) B.pre w (List.mem_cons_of_mem _ hw), findClass_of_methodNamed B.named, B.notSynchronized, hml, hK, hN⟩
/-- a contract out of a walk of the body -/
theorem pw_ofI {l : Launch} {D : va_G} {sh : List Shp} {cI cZ : ClassId} {ad : Nat → Nat} {y : MethodName} {bytes : ByteArray} {maxL : Nat} {ret : Option FieldType} {rm : Room} {av : List Value} {σ : St} {z : Int32 × St} (hy : plainName y.cls = true) (hav : (lg_sl av).length ≤ maxL)
    (body : ∀ (p : Program) (e : Env) (s : State) (m : MethodId) (args : Array Value) (below : List Frame) (meth : Method) (c : Code) (A : Nat → Prop), pw_C p s m args meth c y.cls bytes maxL ret D cI cZ → pw_H D (pw_w sh cI cZ ad σ) A s.heap s.heap [] → ∀ ls : Array Slot, lv_has ls maxL (lv_args 0 av) →
      W p l e rm s m args below meth c s.heap [] 0 0 (pw_QI below args s D (pw_w sh cI cZ ad) A z) (F0 m 0 ls [])) : pw_MI l D sh cI cZ ad y bytes maxL ret rm av σ z.1 z.2 := by
  intro sz
  refine Met.ofW (cc := bytes) (maxL := maxL) (ret := ret) hy rfl ?_
  intro p e s m args below meth c s₁ B hml hv
  obtain ⟨rfl, hsz, hP, hK, hN, hD0⟩ := hv
  subst hsz
  have C := pw_atC B hml hK hN
  have hl := lv_entry av (n := maxL) hav
  rw [lg_entry_eq]
  exact body p e s m _ below meth c _ C ⟨hP, hD0.self, va_S.rf, fun q h => Or.inr h⟩ _ hl
theorem pw_ofV {l : Launch} {D : va_G} {sh : List Shp} {cI cZ : ClassId} {ad : Nat → Nat} {y : MethodName} {bytes : ByteArray} {maxL : Nat} {ret : Option FieldType} {rm : Room} {av : List Value} {σ : St} {z : Int32 × St} (hy : plainName y.cls = true) (hav : (lg_sl av).length ≤ maxL)
    (body : ∀ (p : Program) (e : Env) (s : State) (m : MethodId) (args : Array Value) (below : List Frame) (meth : Method) (c : Code) (A : Nat → Prop), pw_C p s m args meth c y.cls bytes maxL ret D cI cZ → pw_H D (pw_w sh cI cZ ad σ) A s.heap s.heap [] → ∀ ls : Array Slot, lv_has ls maxL (lv_args 0 av) →
      W p l e rm s m args below meth c s.heap [] 0 0 (pw_QV below args s D (pw_w sh cI cZ ad) A z) (F0 m 0 ls [])) : pw_MV l D sh cI cZ ad y bytes maxL ret rm av σ z.2 := by
  intro sz
  refine Met.ofW (cc := bytes) (maxL := maxL) (ret := ret) hy rfl ?_
  intro p e s m args below meth c s₁ B hml hv
  obtain ⟨rfl, hsz, hP, hK, hN, hD0⟩ := hv
  subst hsz
  have C := pw_atC B hml hK hN
  have hl := lv_entry av (n := maxL) hav
  rw [lg_entry_eq]
  exact body p e s m _ below meth c _ C ⟨hP, hD0.self, va_S.rf, fun q h => Or.inr h⟩ _ hl
section Rows
variable {p : Program} {l : Launch} {e : Env} {R : Room} {s : State} {m : MethodId} {args : Array Value} {below : List Frame} {meth : Method} {c : Code} {H H0 : Heap} {locs : List Loc} {cells slots : Nat} {Q : State → Prop}
variable {own : String} {cc : ByteArray} {nL : Nat} {ret : Option FieldType} {D : va_G} {cI cZ : ClassId} {sh : List Shp} {ad : Nat → Nat} {σ : St} {A : Nat → Prop} {pc : Nat} {ls : Array Slot} {rest : List Value} {α : Type} {z : α}
theorem r_iald (C : pw_C p s m args meth c own cc nL ret D cI cZ) (hw : pw_H D (pw_w sh cI cZ ad σ) A H0 H locs) {k n : Nat} (hq : sh[k]? = some (.inl (n, false))) (hdg : decode cc pc = .ok (.iaload, 1)) {i : Int32} {F : Int32 → Option α} (h : rd σ k n i F = some z)
    (kk : ∀ v : Int32, F v = some z → W p l e R s m args below meth c H locs cells slots Q (F0 m (pc + 1) ls (.int v :: rest))) : W p l e R s m args below meth c H locs cells slots Q (F0 m pc ls (.int i :: .ref (ad k) :: rest)) := by
  unfold rd at h
  by_cases hi : i < 0 ∨ n ≤ i.toNatClampNeg
  · rw [if_pos hi] at h; cases h
  · rw [if_neg hi] at h
    exact va_iald C.1 C.2.1 C.2.2.2.2.2.2.2.1 hw.1 k 0 (pw_get hq) rfl hi hdg (kk _ h)
theorem r_zald (C : pw_C p s m args meth c own cc nL ret D cI cZ) (hw : pw_H D (pw_w sh cI cZ ad σ) A H0 H locs) {k n : Nat} (hq : sh[k]? = some (.inl (n, true))) (hdg : decode cc pc = .ok (.baload, 1)) {i : Int32} {F : Int32 → Option α} (h : rd σ k n i F = some z)
    (kk : ∀ v : Int32, F v = some z → W p l e R s m args below meth c H locs cells slots Q (F0 m (pc + 1) ls (.int v :: rest))) : W p l e R s m args below meth c H locs cells slots Q (F0 m pc ls (.int i :: .ref (ad k) :: rest)) := by
  unfold rd at h
  by_cases hi : i < 0 ∨ n ≤ i.toNatClampNeg
  · rw [if_pos hi] at h; cases h
  · rw [if_neg hi] at h
    exact va_zald C.1 C.2.1 C.2.2.2.2.2.2.2.1 hw.1 k 1 (pw_get hq) rfl hi hdg (kk _ h)
theorem r_iast (C : pw_C p s m args meth c own cc nL ret D cI cZ) (hw : pw_H D (pw_w sh cI cZ ad σ) A H0 H locs) {k n : Nat} (hq : sh[k]? = some (.inl (n, false))) (hdg : decode cc pc = .ok (.iastore, 1)) {i v : Int32} {F : St → Option α} (h : wr σ k n i v F = some z)
    (kk : ∀ (σ1 : St) (H1 : Heap) (locs1 : List Loc), pw_H D (pw_w sh cI cZ ad σ1) A H0 H1 locs1 → F σ1 = some z → W p l e R s m args below meth c H1 locs1 cells slots Q (F0 m (pc + 1) ls rest)) : W p l e R s m args below meth c H locs cells slots Q (F0 m pc ls (.int v :: .int i :: .ref (ad k) :: rest)) := by
  unfold wr at h
  by_cases hi : i < 0 ∨ n ≤ i.toNatClampNeg
  · rw [if_pos hi] at h; cases h
  · rw [if_neg hi] at h
    refine va_iast C.1 C.2.1 C.2.2.2.2.2.2.2.1 hw.1 hw.2.1 hw.2.2.1 k 0 (pw_get hq) rfl hi hdg (fun H1 locs1 hP hD hS => ?_)
    rw [pw_set hq (e := .inl (cI, n, .inl (upd (σ k) i.toNatClampNeg v))) (g := upd (σ k) i.toNatClampNeg v) rfl] at hP hD
    exact kk _ H1 locs1 ⟨hP, hD, hS, hw.2.2.2⟩ h
theorem r_zast (C : pw_C p s m args meth c own cc nL ret D cI cZ) (hw : pw_H D (pw_w sh cI cZ ad σ) A H0 H locs) {k n : Nat} (hq : sh[k]? = some (.inl (n, true))) (hdg : decode cc pc = .ok (.bastore, 1)) {i v : Int32} {F : St → Option α} (h : wb σ k n i v F = some z)
    (kk : ∀ (σ1 : St) (H1 : Heap) (locs1 : List Loc), pw_H D (pw_w sh cI cZ ad σ1) A H0 H1 locs1 → F σ1 = some z → W p l e R s m args below meth c H1 locs1 cells slots Q (F0 m (pc + 1) ls rest)) : W p l e R s m args below meth c H locs cells slots Q (F0 m pc ls (.int v :: .int i :: .ref (ad k) :: rest)) := by
  unfold wb at h
  by_cases hi : i < 0 ∨ n ≤ i.toNatClampNeg
  · rw [if_pos hi] at h; cases h
  · rw [if_neg hi] at h
    refine va_zast C.1 C.2.1 C.2.2.2.2.2.2.2.1 hw.1 hw.2.1 hw.2.2.1 k 1 (pw_get hq) rfl hi hdg (fun H1 locs1 hP hD hS => ?_)
    rw [pw_set hq (e := .inl (cZ, n, .inl (upd (σ k) i.toNatClampNeg (vp_nar .boolean v)))) (g := upd (σ k) i.toNatClampNeg (vp_nar .boolean v)) rfl] at hP hD
    exact kk _ H1 locs1 ⟨hP, hD, hS, hw.2.2.2⟩ h
/-- a class's own words -/
def pw_cls (ci : Nat) (C : String) (T : u_T) (N : Nat) (ty : Nat → FieldType) : Prop := vwCl[ci]? = some (C, T, N) ∧ (∀ w ∈ u_ws C T N, w ∈ gT) ∧ (∀ k, k < N → parseFieldDescriptor (T k).2.2.1 = some (ty k)) ∧ ∀ a, a < N → ∀ b, b < N → a ≠ b → (T a).2.1 ≠ (T b).2.1
theorem r_get (C : pw_C p s m args meth c own cc nL ret D cI cZ) (hw : pw_H D (pw_w sh cI cZ ad σ) A H0 H locs) {k ci N index : Nat} {fs : List (Option Nat)} {Cn : String} {T : u_T} {ty : Nat → FieldType} (hq : sh[k]? = some (.inr (ci, fs))) (hc : pw_cls ci Cn T N ty) (j : Nat) {o : Option Nat} (hj : fs[j]? = some o) (hN : j < N)
    (hlink : Cond.fieldLink own index (T j).1 (T j).2.1 (T j).2.2.1 ∈ gT) (hdg : decode cc pc = .ok (.getfield index, 3)) {v : Value} (hv : pw_slot ad (σ k) o j = v)
    (kk : W p l e R s m args below meth c H locs cells slots Q (F0 m (pc + 3) ls (v :: rest))) : W p l e R s m args below meth c H locs cells slots Q (F0 m pc ls (.ref (ad k) :: rest)) :=
  va_get C.1 C.2.1 C.2.2.2.1 hc.2.1 C.2.2.2.2.1 C.2.2.2.2.2.2.2.1 hw.1 k (pw_get hq) hc.1 j hN (C.2.2.2.1 _ hlink) (fun _ h => h) (by rw [pw_obj_get, hj, Nat.zero_add]; exact congrArg some hv) hdg kk
theorem r_getN (C : pw_C p s m args meth c own cc nL ret D cI cZ) (hw : pw_H D (pw_w sh cI cZ ad σ) A H0 H locs) {k ci N index : Nat} {fs : List (Option Nat)} {Cn host : String} {T : u_T} {ty : Nat → FieldType} (hq : sh[k]? = some (.inr (ci, fs))) (hc : pw_cls ci Cn T N ty) (j : Nat) {o : Option Nat} (hj : fs[j]? = some o) (hN : j < N)
    (hlink : Cond.fieldLinkNest own index (T j).1 (T j).2.1 (T j).2.2.1 host ∈ pw_nw) (hdg : decode cc pc = .ok (.getfield index, 3)) {v : Value} (hv : pw_slot ad (σ k) o j = v)
    (kk : W p l e R s m args below meth c H locs cells slots Q (F0 m (pc + 3) ls (v :: rest))) : W p l e R s m args below meth c H locs cells slots Q (F0 m pc ls (.ref (ad k) :: rest)) :=
  va_getN C.1 C.2.1 C.2.2.2.1 hc.2.1 C.2.2.2.2.1 C.2.2.2.2.2.2.2.1 hw.1 k (pw_get hq) hc.1 j hN (va_Nw.use rfl (C.2.2.2.2.2.2.2.2 _ hlink)) (fun _ h => h) (by rw [pw_obj_get, hj, Nat.zero_add]; exact congrArg some hv) hdg kk
theorem r_put (C : pw_C p s m args meth c own cc nL ret D cI cZ) (hw : pw_H D (pw_w sh cI cZ ad σ) A H0 H locs) {k ci N index : Nat} {fs : List (Option Nat)} {Cn : String} {T : u_T} {ty : Nat → FieldType} (hq : sh[k]? = some (.inr (ci, fs))) (hc : pw_cls ci Cn T N ty) (j : Nat) (hj : fs[j]? = some none) (hN : j < N)
    (hlink : Cond.fieldLink own index (T j).1 (T j).2.1 (T j).2.2.1 ∈ gT) (hdg : decode cc pc = .ok (.putfield index, 3)) (hfin : (T j).2.2.2 = false) {v : Int32} {F : St → Option α} (hn : narrow (ty j) (.int v) = .int v) (hfit : fits (ty j) (.int v) = true) (h : pf σ k j v F = some z)
    (kk : ∀ (σ1 : St) (H1 : Heap) (locs1 : List Loc), pw_H D (pw_w sh cI cZ ad σ1) A H0 H1 locs1 → F σ1 = some z → W p l e R s m args below meth c H1 locs1 cells slots Q (F0 m (pc + 3) ls rest)) : W p l e R s m args below meth c H locs cells slots Q (F0 m pc ls (.int v :: .ref (ad k) :: rest)) := by
  refine va_put C.1 C.2.1 C.2.2.2.1 hc.2.1 ty hc.2.2.1 hc.2.2.2 C.2.2.2.2.1 C.2.2.2.2.2.2.2.1 hw.1 hw.2.1 hw.2.2.1 k (pw_get hq) hc.1 j hN (C.2.2.2.1 _ hlink) (fun _ h => h) hfin (hc.2.2.1 j hN) hn hfit (by rw [pw_obj_len]; exact (List.getElem?_eq_some_iff.mp hj).1) hdg (fun H1 locs1 hP hD hS => ?_)
  rw [pw_set hq (g := upd (σ k) j v) (by unfold pw_cell; rw [pw_obj_set _ _ _ _ _ hj])] at hP hD
  exact kk _ H1 locs1 ⟨hP, hD, hS, hw.2.2.2⟩ h
theorem r_putN (C : pw_C p s m args meth c own cc nL ret D cI cZ) (hw : pw_H D (pw_w sh cI cZ ad σ) A H0 H locs) {k ci N index : Nat} {fs : List (Option Nat)} {Cn host : String} {T : u_T} {ty : Nat → FieldType} (hq : sh[k]? = some (.inr (ci, fs))) (hc : pw_cls ci Cn T N ty) (j : Nat) (hj : fs[j]? = some none) (hN : j < N)
    (hlink : Cond.fieldLinkNest own index (T j).1 (T j).2.1 (T j).2.2.1 host ∈ pw_nw) (hdg : decode cc pc = .ok (.putfield index, 3)) (hfin : (T j).2.2.2 = false) {v : Int32} {F : St → Option α} (hn : narrow (ty j) (.int v) = .int v) (hfit : fits (ty j) (.int v) = true) (h : pf σ k j v F = some z)
    (kk : ∀ (σ1 : St) (H1 : Heap) (locs1 : List Loc), pw_H D (pw_w sh cI cZ ad σ1) A H0 H1 locs1 → F σ1 = some z → W p l e R s m args below meth c H1 locs1 cells slots Q (F0 m (pc + 3) ls rest)) : W p l e R s m args below meth c H locs cells slots Q (F0 m pc ls (.int v :: .ref (ad k) :: rest)) := by
  refine va_putN C.1 C.2.1 C.2.2.2.1 hc.2.1 ty hc.2.2.1 hc.2.2.2 C.2.2.2.2.1 C.2.2.2.2.2.2.2.1 hw.1 hw.2.1 hw.2.2.1 k (pw_get hq) hc.1 j hN (va_Nw.use rfl (C.2.2.2.2.2.2.2.2 _ hlink)) (fun _ h => h) hfin (hc.2.2.1 j hN) hn hfit (by rw [pw_obj_len]; exact (List.getElem?_eq_some_iff.mp hj).1) hdg (fun H1 locs1 hP hD hS => ?_)
  rw [pw_set hq (g := upd (σ k) j v) (by unfold pw_cell; rw [pw_obj_set _ _ _ _ _ hj])] at hP hD
  exact kk _ H1 locs1 ⟨hP, hD, hS, hw.2.2.2⟩ h
theorem r_iret (C : pw_C p s m args meth c own cc nL (some .int) D cI cZ) {wf : St → va_W} (hw : pw_H D (wf σ) A s.heap H locs) {v : Int32} {y : Int32 × St} (hdg : decode cc pc = .ok (.ireturn, 1)) (h : some (v, σ) = some y) : W p l e R s m args below meth c H locs 0 0 (pw_QI below args s D wf A y) (F0 m pc ls [.int v]) := by
  have e := Option.some.inj h
  subst e
  exact W.iret C.1 C.2.1 C.2.2.1 (fun t ht hW => ⟨⟨v, σ, rfl, ⟨rfl, rfl⟩, by rw [ht]; exact hw.1, hw.2.1⟩, hw.2.2.1.F ht⟩) hw.2.2.1.2.2 hdg C.2.2.2.2.2.1
theorem r_zret (C : pw_C p s m args meth c own cc nL (some .boolean) D cI cZ) {wf : St → va_W} (hw : pw_H D (wf σ) A s.heap H locs) {v : Int32} {y : Int32 × St} (hdg : decode cc pc = .ok (.ireturn, 1)) (h : zr v σ = some y) : W p l e R s m args below meth c H locs 0 0 (pw_QI below args s D wf A y) (F0 m pc ls [.int v]) := by
  obtain ⟨hv, e⟩ := zr_some h
  subst e
  refine W.zret (ty := .boolean) C.1 C.2.1 C.2.2.1 ?_ (fun t ht hW => ⟨⟨v, σ, rfl, ⟨rfl, rfl⟩, by rw [ht]; exact hw.1, hw.2.1⟩, hw.2.2.1.F ht⟩) hw.2.2.1.2.2 hdg C.2.2.2.2.2.1
  rcases hv with rfl | rfl <;> rfl
theorem r_vret (C : pw_C p s m args meth c own cc nL none D cI cZ) {wf : St → va_W} (hw : pw_H D (wf σ) A s.heap H locs) {v : Int32} {y : Int32 × St} (hdg : decode cc pc = .ok (.return_, 1)) (h : some (v, σ) = some y) : W p l e R s m args below meth c H locs 0 0 (pw_QV below args s D wf A y) (F0 m pc ls []) := by
  have e := Option.some.inj h
  subst e
  exact W.vret C.1 C.2.1 C.2.2.1 (fun t ht hW => ⟨⟨σ, rfl, rfl, by rw [ht]; exact hw.1, hw.2.1⟩, hw.2.2.1.F ht⟩) hw.2.2.1.2.2 hdg C.2.2.2.2.2.1
/-- what a call needs of its method: an instance's, or a static one -/
def pw_YV (y : MethodName) (bytes : ByteArray) (maxL : Nat) (ret : Option FieldType) (n : Nat) : Prop := Cond.code y bytes maxL ret ∈ gT ∧ Cond.initialized y.cls ∈ gT ∧ (y.cls ≠ "java/lang/invoke/MethodHandle" ∧ y.cls ≠ "java/lang/invoke/VarHandle" ∧ (parseMethodDescriptor y.desc).map (fun d => d.parameters.length) = some n) ∧ Cond.instanceMethod y ∈ gT ∧ Cond.selects y.cls y y ∈ gT
def pw_YS (y : MethodName) (bytes : ByteArray) (maxL : Nat) (ret : Option FieldType) (n : Nat) : Prop := Cond.code y bytes maxL ret ∈ gT ∧ Cond.initialized y.cls ∈ gT ∧ (y.cls ≠ "java/lang/invoke/MethodHandle" ∧ y.cls ≠ "java/lang/invoke/VarHandle" ∧ (parseMethodDescriptor y.desc).map (fun d => d.parameters.length) = some n) ∧ Cond.static y ∈ gT
theorem pw_free {w : va_W} (hw : pw_H D w A H0 H locs) : ∀ q, va_A w H.size q → A q := by
  intro q h
  rcases h with ⟨k, e, h⟩ | h
  · exact hw.2.1.2 k _ h
  · exact hw.2.2.2 q (Nat.le_trans hw.2.2.1.1 h)
theorem pw_pre (C : pw_C p s m args meth c own cc nL ret D cI cZ) {w : va_W} (hw : pw_H D w A H0 H locs) (av : List Value) : ∀ U : State, U.heap = H → s.WarmedH U.vm → va_Pc av (pw_Pre D cI cZ w H.size) av.toArray U :=
  fun U hU hW => ⟨rfl, by rw [hU], by rw [hU]; exact hw.1, va_K.moved hW.alike C.2.2.2.2.2.2.2.1, C.2.2.2.2.2.2.2.2.warm hW, hw.2.1.weaken (fun _ _ _ _ => trivial)⟩
theorem pw_after {wf : St → va_W} {w : va_W} {H1 : Heap} {locs1 : List Loc} {t : State} {u : St} (hw : pw_H D w A H0 H locs) (ht : t.heap = H1) (hB : pw_B D wf (va_A w H.size) u t) (hS : va_S A H0 H1 locs1) : pw_H D (wf u) A H0 H1 locs1 :=
  ⟨by rw [← ht]; exact hB.1, hB.2.weaken (fun k q _ h => pw_free hw q.1 h), hS, hw.2.2.2⟩
variable {y : MethodName} {bytes : ByteArray} {maxL index n : Nat} {rt : Option FieldType} {rm : Room} {As : List Value} {st0 : List Value} {r : Int32} {σ1 : St} {k ci : Nat} {fs : List (Option Nat)} {T : u_T} {N : Nat} {ty : Nat → FieldType} {host : String}
/-- a call of the class's own instance method, of one of a nest mate, of a static one -/
theorem r_cVI (C : pw_C p s m args meth c own cc nL ret D cI cZ) (hw : pw_H D (pw_w sh cI cZ ad σ) A s.heap H locs) (hM : pw_MI l D sh cI cZ ad y bytes maxL rt rm (.ref (ad k) :: As) σ r σ1) (hY : pw_YV y bytes maxL rt n) (hml : Cond.methodLink own index y ∈ gT) (hq : sh[k]? = some (.inr (ci, fs))) (hc : pw_cls ci y.cls T N ty)
    (hrm : rm.cells = 0 ∧ rm.slots = 0 ∧ rm.frames + 1 ≤ R.frames ∧ 8 + (maxL + 11) + rm.locals ≤ R.locals) (hn : As.length = n) (hls : ls.size = nL) (hst : st0 = As.reverse ++ .ref (ad k) :: rest) (hr : (rest.map fun v => v.category).sum ≤ 8) (hdg : decode cc pc = .ok (.invokevirtual index, 3)) (hcs : cells ≤ R.cells ∧ slots ≤ R.slots)
    (kk : ∀ (H1 : Heap) (locs1 : List Loc), pw_H D (pw_w sh cI cZ ad σ1) A s.heap H1 locs1 → W p l e R s m args below meth c H1 locs1 cells slots Q (F0 m (pc + 3) ls (.int r :: rest))) : W p l e R s m args below meth c H locs cells slots Q (F0 m pc ls st0) := by
  subst hst
  refine va_calli (va_runV (nL := nL) (Ts := gT) (ret := rt) (As := As) (rest := rest) ⟨C.1, C.2.1, C.2.2.2.2.2.2.1, C.2.2.2.2.1, C.2.2.2.1⟩ (hM H.size) ⟨callB_of n C.2.2.2.1 (gT_in (fun _ h => h) hY.1) rfl hrm.1 hrm.2.1 (C.2.2.2.1 _ hY.2.1) (C.2.2.2.1 _ hml) hY.2.2.1 hrm.2.2, C.2.2.2.1 _ hY.2.2.2.1, C.2.2.2.1 _ hY.2.2.2.2⟩
    ⟨pw_blind, va_recv C.2.2.2.2.2.2.2.1 hw.1 hc.1 (pw_get hq), pw_pre C hw _⟩ rfl hn hls rfl (lv_room hr) hdg hcs) hw.2.2.1 (fun q _ h => pw_free hw q h) (pw_free hw) (fun r1 u t H1 locs1 ht hvm hp hB hz1 hk1 hS => ?_)
  obtain ⟨rfl, rfl⟩ := hp
  exact kk H1 locs1 (pw_after (wf := pw_w sh cI cZ ad) hw ht hB hS)
theorem r_cVV (C : pw_C p s m args meth c own cc nL ret D cI cZ) (hw : pw_H D (pw_w sh cI cZ ad σ) A s.heap H locs) (hM : pw_MV l D sh cI cZ ad y bytes maxL rt rm (.ref (ad k) :: As) σ σ1) (hY : pw_YV y bytes maxL rt n) (hml : Cond.methodLink own index y ∈ gT) (hq : sh[k]? = some (.inr (ci, fs))) (hc : pw_cls ci y.cls T N ty)
    (hrm : rm.cells = 0 ∧ rm.slots = 0 ∧ rm.frames + 1 ≤ R.frames ∧ 8 + (maxL + 11) + rm.locals ≤ R.locals) (hn : As.length = n) (hls : ls.size = nL) (hst : st0 = As.reverse ++ .ref (ad k) :: rest) (hr : (rest.map fun v => v.category).sum ≤ 8) (hdg : decode cc pc = .ok (.invokevirtual index, 3)) (hcs : cells ≤ R.cells ∧ slots ≤ R.slots)
    (kk : ∀ (H1 : Heap) (locs1 : List Loc), pw_H D (pw_w sh cI cZ ad σ1) A s.heap H1 locs1 → W p l e R s m args below meth c H1 locs1 cells slots Q (F0 m (pc + 3) ls rest)) : W p l e R s m args below meth c H locs cells slots Q (F0 m pc ls st0) := by
  subst hst
  refine va_callv (va_runV (nL := nL) (Ts := gT) (ret := rt) (As := As) (rest := rest) ⟨C.1, C.2.1, C.2.2.2.2.2.2.1, C.2.2.2.2.1, C.2.2.2.1⟩ (hM H.size) ⟨callB_of n C.2.2.2.1 (gT_in (fun _ h => h) hY.1) rfl hrm.1 hrm.2.1 (C.2.2.2.1 _ hY.2.1) (C.2.2.2.1 _ hml) hY.2.2.1 hrm.2.2, C.2.2.2.1 _ hY.2.2.2.1, C.2.2.2.1 _ hY.2.2.2.2⟩
    ⟨pw_blind, va_recv C.2.2.2.2.2.2.2.1 hw.1 hc.1 (pw_get hq), pw_pre C hw _⟩ rfl hn hls rfl (lv_room hr) hdg hcs) hw.2.2.1 (fun q _ h => pw_free hw q h) (pw_free hw) (fun u t H1 locs1 ht hvm hp hB hz1 hk1 hS => ?_)
  subst hp
  exact kk H1 locs1 (pw_after (wf := pw_w sh cI cZ ad) hw ht hB hS)
theorem r_cNI (C : pw_C p s m args meth c own cc nL ret D cI cZ) (hw : pw_H D (pw_w sh cI cZ ad σ) A s.heap H locs) (hM : pw_MI l D sh cI cZ ad y bytes maxL rt rm (.ref (ad k) :: As) σ r σ1) (hY : pw_YV y bytes maxL rt n) (hml : Cond.methodLinkNest own index y host ∈ pw_nw) (hq : sh[k]? = some (.inr (ci, fs))) (hc : pw_cls ci y.cls T N ty)
    (hrm : rm.cells = 0 ∧ rm.slots = 0 ∧ rm.frames + 1 ≤ R.frames ∧ 8 + (maxL + 11) + rm.locals ≤ R.locals) (hn : As.length = n) (hls : ls.size = nL) (hst : st0 = As.reverse ++ .ref (ad k) :: rest) (hr : (rest.map fun v => v.category).sum ≤ 8) (hdg : decode cc pc = .ok (.invokevirtual index, 3)) (hcs : cells ≤ R.cells ∧ slots ≤ R.slots)
    (kk : ∀ (H1 : Heap) (locs1 : List Loc), pw_H D (pw_w sh cI cZ ad σ1) A s.heap H1 locs1 → W p l e R s m args below meth c H1 locs1 cells slots Q (F0 m (pc + 3) ls (.int r :: rest))) : W p l e R s m args below meth c H locs cells slots Q (F0 m pc ls st0) := by
  subst hst
  refine va_calli (va_runVN (nL := nL) (Ts := gT) (ret := rt) (As := As) (rest := rest) ⟨C.1, C.2.1, C.2.2.2.2.2.2.1, C.2.2.2.2.1, C.2.2.2.1⟩ (hM H.size) ⟨va_cnB n C.2.2.2.1 (gT_in (fun _ h => h) hY.1) rfl hrm.1 hrm.2.1 (C.2.2.2.2.2.2.2.2 _ hml) (C.2.2.2.1 _ hY.2.1) hY.2.2.1 hrm.2.2, C.2.2.2.1 _ hY.2.2.2.1, C.2.2.2.1 _ hY.2.2.2.2⟩
    ⟨pw_blind, va_recv C.2.2.2.2.2.2.2.1 hw.1 hc.1 (pw_get hq), pw_pre C hw _⟩ rfl hn hls rfl (lv_room hr) hdg hcs) hw.2.2.1 (fun q _ h => pw_free hw q h) (pw_free hw) (fun r1 u t H1 locs1 ht hvm hp hB hz1 hk1 hS => ?_)
  obtain ⟨rfl, rfl⟩ := hp
  exact kk H1 locs1 (pw_after (wf := pw_w sh cI cZ ad) hw ht hB hS)
theorem r_cNV (C : pw_C p s m args meth c own cc nL ret D cI cZ) (hw : pw_H D (pw_w sh cI cZ ad σ) A s.heap H locs) (hM : pw_MV l D sh cI cZ ad y bytes maxL rt rm (.ref (ad k) :: As) σ σ1) (hY : pw_YV y bytes maxL rt n) (hml : Cond.methodLinkNest own index y host ∈ pw_nw) (hq : sh[k]? = some (.inr (ci, fs))) (hc : pw_cls ci y.cls T N ty)
    (hrm : rm.cells = 0 ∧ rm.slots = 0 ∧ rm.frames + 1 ≤ R.frames ∧ 8 + (maxL + 11) + rm.locals ≤ R.locals) (hn : As.length = n) (hls : ls.size = nL) (hst : st0 = As.reverse ++ .ref (ad k) :: rest) (hr : (rest.map fun v => v.category).sum ≤ 8) (hdg : decode cc pc = .ok (.invokevirtual index, 3)) (hcs : cells ≤ R.cells ∧ slots ≤ R.slots)
    (kk : ∀ (H1 : Heap) (locs1 : List Loc), pw_H D (pw_w sh cI cZ ad σ1) A s.heap H1 locs1 → W p l e R s m args below meth c H1 locs1 cells slots Q (F0 m (pc + 3) ls rest)) : W p l e R s m args below meth c H locs cells slots Q (F0 m pc ls st0) := by
  subst hst
  refine va_callv (va_runVN (nL := nL) (Ts := gT) (ret := rt) (As := As) (rest := rest) ⟨C.1, C.2.1, C.2.2.2.2.2.2.1, C.2.2.2.2.1, C.2.2.2.1⟩ (hM H.size) ⟨va_cnB n C.2.2.2.1 (gT_in (fun _ h => h) hY.1) rfl hrm.1 hrm.2.1 (C.2.2.2.2.2.2.2.2 _ hml) (C.2.2.2.1 _ hY.2.1) hY.2.2.1 hrm.2.2, C.2.2.2.1 _ hY.2.2.2.1, C.2.2.2.1 _ hY.2.2.2.2⟩
    ⟨pw_blind, va_recv C.2.2.2.2.2.2.2.1 hw.1 hc.1 (pw_get hq), pw_pre C hw _⟩ rfl hn hls rfl (lv_room hr) hdg hcs) hw.2.2.1 (fun q _ h => pw_free hw q h) (pw_free hw) (fun u t H1 locs1 ht hvm hp hB hz1 hk1 hS => ?_)
  subst hp
  exact kk H1 locs1 (pw_after (wf := pw_w sh cI cZ ad) hw ht hB hS)
theorem r_cSI (C : pw_C p s m args meth c own cc nL ret D cI cZ) (hw : pw_H D (pw_w sh cI cZ ad σ) A s.heap H locs) (hM : pw_MI l D sh cI cZ ad y bytes maxL rt rm As σ r σ1) (hY : pw_YS y bytes maxL rt n) (hml : Cond.methodLink own index y ∈ gT)
    (hrm : rm.cells = 0 ∧ rm.slots = 0 ∧ rm.frames + 1 ≤ R.frames ∧ 8 + (maxL + 11) + rm.locals ≤ R.locals) (hn : As.length = n) (hls : ls.size = nL) (hst : st0 = As.reverse ++ rest) (hr : (rest.map fun v => v.category).sum ≤ 8) (hdg : decode cc pc = .ok (.invokestatic index, 3)) (hcs : cells ≤ R.cells ∧ slots ≤ R.slots)
    (kk : ∀ (H1 : Heap) (locs1 : List Loc), pw_H D (pw_w sh cI cZ ad σ1) A s.heap H1 locs1 → W p l e R s m args below meth c H1 locs1 cells slots Q (F0 m (pc + 3) ls (.int r :: rest))) : W p l e R s m args below meth c H locs cells slots Q (F0 m pc ls st0) := by
  subst hst
  refine va_calli (va_runS (nL := nL) (Ts := gT) (ret := rt) (As := As) (rest := rest) ⟨C.1, C.2.1, C.2.2.2.2.2.2.1, C.2.2.2.2.1, C.2.2.2.1⟩ (hM H.size) ⟨callB_of n C.2.2.2.1 (gT_in (fun _ h => h) hY.1) rfl hrm.1 hrm.2.1 (C.2.2.2.1 _ hY.2.1) (C.2.2.2.1 _ hml) hY.2.2.1 hrm.2.2, C.2.2.2.1 _ hY.2.2.2⟩
    ⟨pw_blind, pw_pre C hw _⟩ rfl hn hls rfl (lv_room hr) hdg hcs) hw.2.2.1 (fun q _ h => pw_free hw q h) (pw_free hw) (fun r1 u t H1 locs1 ht hvm hp hB hz1 hk1 hS => ?_)
  obtain ⟨rfl, rfl⟩ := hp
  exact kk H1 locs1 (pw_after (wf := pw_w sh cI cZ ad) hw ht hB hS)
theorem r_cSV (C : pw_C p s m args meth c own cc nL ret D cI cZ) (hw : pw_H D (pw_w sh cI cZ ad σ) A s.heap H locs) (hM : pw_MV l D sh cI cZ ad y bytes maxL rt rm As σ σ1) (hY : pw_YS y bytes maxL rt n) (hml : Cond.methodLink own index y ∈ gT)
    (hrm : rm.cells = 0 ∧ rm.slots = 0 ∧ rm.frames + 1 ≤ R.frames ∧ 8 + (maxL + 11) + rm.locals ≤ R.locals) (hn : As.length = n) (hls : ls.size = nL) (hst : st0 = As.reverse ++ rest) (hr : (rest.map fun v => v.category).sum ≤ 8) (hdg : decode cc pc = .ok (.invokestatic index, 3)) (hcs : cells ≤ R.cells ∧ slots ≤ R.slots)
    (kk : ∀ (H1 : Heap) (locs1 : List Loc), pw_H D (pw_w sh cI cZ ad σ1) A s.heap H1 locs1 → W p l e R s m args below meth c H1 locs1 cells slots Q (F0 m (pc + 3) ls rest)) : W p l e R s m args below meth c H locs cells slots Q (F0 m pc ls st0) := by
  subst hst
  refine va_callv (va_runS (nL := nL) (Ts := gT) (ret := rt) (As := As) (rest := rest) ⟨C.1, C.2.1, C.2.2.2.2.2.2.1, C.2.2.2.2.1, C.2.2.2.1⟩ (hM H.size) ⟨callB_of n C.2.2.2.1 (gT_in (fun _ h => h) hY.1) rfl hrm.1 hrm.2.1 (C.2.2.2.1 _ hY.2.1) (C.2.2.2.1 _ hml) hY.2.2.1 hrm.2.2, C.2.2.2.1 _ hY.2.2.2⟩
    ⟨pw_blind, pw_pre C hw _⟩ rfl hn hls rfl (lv_room hr) hdg hcs) hw.2.2.1 (fun q _ h => pw_free hw q h) (pw_free hw) (fun u t H1 locs1 ht hvm hp hB hz1 hk1 hS => ?_)
  subst hp
  exact kk H1 locs1 (pw_after (wf := pw_w sh cI cZ ad) hw ht hB hS)
theorem pw_ne {x k : Int32} (h : ¬ x = k) : x.toInt ≠ k.toInt := fun q => h (Int32.toInt_inj.mp q)
end Rows
end
