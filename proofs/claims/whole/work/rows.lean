section
-- ===== PART A: goes FIRST, ahead of the names: the tables' words, and 'selects' of the private methods out of them =====
/-- a private method of a class that the tables say can be made, by its rows of tables_1 -/
def lw_okq (q : MethodName × Nat) : Prop := (q.1.cls ≠ "java/lang/invoke/MethodHandle" ∧ q.1.cls ≠ "java/lang/invoke/VarHandle") ∧ Cond.instantiable q.1.cls q.2 ∈ tables_1 ∧ Cond.privateMethod q.1 ∈ tables_1 ∧ Cond.instanceMethod q.1 ∈ tables_1
theorem lw_p0 : lw_okq (⟨"DataShrinker$Program", "forgetReferencesTo", "(I)V"⟩, 15) := ⟨⟨by decide +kernel, by decide +kernel⟩, List.mem_of_getElem? (i := 24) (by decide +kernel), List.mem_of_getElem? (i := 330) (by decide +kernel), List.mem_of_getElem? (i := 331) (by decide +kernel)⟩
theorem lw_p1 : lw_okq (⟨"DataShrinker$Machine", "begin", "(I)V"⟩, 14) := ⟨⟨by decide +kernel, by decide +kernel⟩, List.mem_of_getElem? (i := 245) (by decide +kernel), List.mem_of_getElem? (i := 423) (by decide +kernel), List.mem_of_getElem? (i := 424) (by decide +kernel)⟩
theorem lw_p2 : lw_okq (⟨"DataShrinker$Machine", "leave", "()V"⟩, 14) := ⟨⟨by decide +kernel, by decide +kernel⟩, List.mem_of_getElem? (i := 245) (by decide +kernel), List.mem_of_getElem? (i := 431) (by decide +kernel), List.mem_of_getElem? (i := 432) (by decide +kernel)⟩
theorem lw_p3 : lw_okq (⟨"DataShrinker$Machine", "carryOut", "(I)I"⟩, 14) := ⟨⟨by decide +kernel, by decide +kernel⟩, List.mem_of_getElem? (i := 245) (by decide +kernel), List.mem_of_getElem? (i := 435) (by decide +kernel), List.mem_of_getElem? (i := 436) (by decide +kernel)⟩
theorem lw_p4 : lw_okq (⟨"DataShrinker$Machine", "put", "(II)I"⟩, 14) := ⟨⟨by decide +kernel, by decide +kernel⟩, List.mem_of_getElem? (i := 245) (by decide +kernel), List.mem_of_getElem? (i := 439) (by decide +kernel), List.mem_of_getElem? (i := 440) (by decide +kernel)⟩
theorem lw_p5 : lw_okq (⟨"DataShrinker$Machine", "load", "(III)I"⟩, 14) := ⟨⟨by decide +kernel, by decide +kernel⟩, List.mem_of_getElem? (i := 245) (by decide +kernel), List.mem_of_getElem? (i := 446) (by decide +kernel), List.mem_of_getElem? (i := 447) (by decide +kernel)⟩
theorem lw_p6 : lw_okq (⟨"DataShrinker$Machine", "store", "(III)I"⟩, 14) := ⟨⟨by decide +kernel, by decide +kernel⟩, List.mem_of_getElem? (i := 245) (by decide +kernel), List.mem_of_getElem? (i := 451) (by decide +kernel), List.mem_of_getElem? (i := 452) (by decide +kernel)⟩
theorem lw_p7 : lw_okq (⟨"DataShrinker$Machine", "openFunction", "(I)I"⟩, 14) := ⟨⟨by decide +kernel, by decide +kernel⟩, List.mem_of_getElem? (i := 245) (by decide +kernel), List.mem_of_getElem? (i := 455) (by decide +kernel), List.mem_of_getElem? (i := 456) (by decide +kernel)⟩
theorem lw_p8 : lw_okq (⟨"DataShrinker$Machine", "skip", "(I)I"⟩, 14) := ⟨⟨by decide +kernel, by decide +kernel⟩, List.mem_of_getElem? (i := 245) (by decide +kernel), List.mem_of_getElem? (i := 459) (by decide +kernel), List.mem_of_getElem? (i := 460) (by decide +kernel)⟩
theorem lw_p9 : lw_okq (⟨"DataShrinker$Machine", "send", "(I)I"⟩, 14) := ⟨⟨by decide +kernel, by decide +kernel⟩, List.mem_of_getElem? (i := 245) (by decide +kernel), List.mem_of_getElem? (i := 463) (by decide +kernel), List.mem_of_getElem? (i := 464) (by decide +kernel)⟩
theorem lw_p10 : lw_okq (⟨"DataShrinker$Machine", "takeInput", "()I"⟩, 14) := ⟨⟨by decide +kernel, by decide +kernel⟩, List.mem_of_getElem? (i := 245) (by decide +kernel), List.mem_of_getElem? (i := 467) (by decide +kernel), List.mem_of_getElem? (i := 468) (by decide +kernel)⟩
theorem lw_p11 : lw_okq (⟨"DataShrinker$Machine", "standAsOne", "(II)Z"⟩, 14) := ⟨⟨by decide +kernel, by decide +kernel⟩, List.mem_of_getElem? (i := 245) (by decide +kernel), List.mem_of_getElem? (i := 471) (by decide +kernel), List.mem_of_getElem? (i := 472) (by decide +kernel)⟩
theorem lw_p12 : lw_okq (⟨"DataShrinker$Machine", "follow", "(III)I"⟩, 14) := ⟨⟨by decide +kernel, by decide +kernel⟩, List.mem_of_getElem? (i := 245) (by decide +kernel), List.mem_of_getElem? (i := 478) (by decide +kernel), List.mem_of_getElem? (i := 479) (by decide +kernel)⟩
theorem lw_p13 : lw_okq (⟨"DataShrinker$Reach", "forget", "()V"⟩, 12) := ⟨⟨by decide +kernel, by decide +kernel⟩, List.mem_of_getElem? (i := 107) (by decide +kernel), List.mem_of_getElem? (i := 520) (by decide +kernel), List.mem_of_getElem? (i := 521) (by decide +kernel)⟩
theorem lw_p14 : lw_okq (⟨"DataShrinker$Reach", "forgetStates", "()V"⟩, 12) := ⟨⟨by decide +kernel, by decide +kernel⟩, List.mem_of_getElem? (i := 107) (by decide +kernel), List.mem_of_getElem? (i := 531) (by decide +kernel), List.mem_of_getElem? (i := 532) (by decide +kernel)⟩
theorem lw_p15 : lw_okq (⟨"DataShrinker$Reach", "standAsTold", "()V"⟩, 12) := ⟨⟨by decide +kernel, by decide +kernel⟩, List.mem_of_getElem? (i := 107) (by decide +kernel), List.mem_of_getElem? (i := 546) (by decide +kernel), List.mem_of_getElem? (i := 547) (by decide +kernel)⟩
def lw_privs_1 : List (MethodName × Nat) := [(⟨"DataShrinker$Program", "forgetReferencesTo", "(I)V"⟩, 15), (⟨"DataShrinker$Machine", "begin", "(I)V"⟩, 14), (⟨"DataShrinker$Machine", "leave", "()V"⟩, 14), (⟨"DataShrinker$Machine", "carryOut", "(I)I"⟩, 14), (⟨"DataShrinker$Machine", "put", "(II)I"⟩, 14), (⟨"DataShrinker$Machine", "load", "(III)I"⟩, 14), (⟨"DataShrinker$Machine", "store", "(III)I"⟩, 14), (⟨"DataShrinker$Machine", "openFunction", "(I)I"⟩, 14), (⟨"DataShrinker$Machine", "skip", "(I)I"⟩, 14), (⟨"DataShrinker$Machine", "send", "(I)I"⟩, 14), (⟨"DataShrinker$Machine", "takeInput", "()I"⟩, 14), (⟨"DataShrinker$Machine", "standAsOne", "(II)Z"⟩, 14), (⟨"DataShrinker$Machine", "follow", "(III)I"⟩, 14), (⟨"DataShrinker$Reach", "forget", "()V"⟩, 12), (⟨"DataShrinker$Reach", "forgetStates", "()V"⟩, 12), (⟨"DataShrinker$Reach", "standAsTold", "()V"⟩, 12)]
theorem lw_r1 : ∀ q ∈ lw_privs_1, lw_okq q := List.forall_mem_cons.mpr ⟨lw_p0, List.forall_mem_cons.mpr ⟨lw_p1, List.forall_mem_cons.mpr ⟨lw_p2, List.forall_mem_cons.mpr ⟨lw_p3, List.forall_mem_cons.mpr ⟨lw_p4, List.forall_mem_cons.mpr ⟨lw_p5, List.forall_mem_cons.mpr ⟨lw_p6, List.forall_mem_cons.mpr ⟨lw_p7, List.forall_mem_cons.mpr ⟨lw_p8, List.forall_mem_cons.mpr ⟨lw_p9, List.forall_mem_cons.mpr ⟨lw_p10, List.forall_mem_cons.mpr ⟨lw_p11, List.forall_mem_cons.mpr ⟨lw_p12, List.forall_mem_cons.mpr ⟨lw_p13, List.forall_mem_cons.mpr ⟨lw_p14, List.forall_mem_cons.mpr ⟨lw_p15, fun _ h => absurd h List.not_mem_nil⟩⟩⟩⟩⟩⟩⟩⟩⟩⟩⟩⟩⟩⟩⟩⟩
theorem lw_p16 : lw_okq (⟨"DataShrinker$Reach", "findSites", "()V"⟩, 12) := ⟨⟨by decide +kernel, by decide +kernel⟩, List.mem_of_getElem? (i := 107) (by decide +kernel), List.mem_of_getElem? (i := 556) (by decide +kernel), List.mem_of_getElem? (i := 557) (by decide +kernel)⟩
theorem lw_p17 : lw_okq (⟨"DataShrinker$Reach", "wakerOf", "(I)I"⟩, 12) := ⟨⟨by decide +kernel, by decide +kernel⟩, List.mem_of_getElem? (i := 107) (by decide +kernel), List.mem_of_getElem? (i := 560) (by decide +kernel), List.mem_of_getElem? (i := 561) (by decide +kernel)⟩
theorem lw_p18 : lw_okq (⟨"DataShrinker$Reach", "beginAtEntries", "()V"⟩, 12) := ⟨⟨by decide +kernel, by decide +kernel⟩, List.mem_of_getElem? (i := 107) (by decide +kernel), List.mem_of_getElem? (i := 564) (by decide +kernel), List.mem_of_getElem? (i := 565) (by decide +kernel)⟩
theorem lw_p19 : lw_okq (⟨"DataShrinker$Reach", "placeIn", "(II)I"⟩, 12) := ⟨⟨by decide +kernel, by decide +kernel⟩, List.mem_of_getElem? (i := 107) (by decide +kernel), List.mem_of_getElem? (i := 573) (by decide +kernel), List.mem_of_getElem? (i := 574) (by decide +kernel)⟩
theorem lw_p20 : lw_okq (⟨"DataShrinker$Reach", "arriveAt", "(II)V"⟩, 12) := ⟨⟨by decide +kernel, by decide +kernel⟩, List.mem_of_getElem? (i := 107) (by decide +kernel), List.mem_of_getElem? (i := 584) (by decide +kernel), List.mem_of_getElem? (i := 585) (by decide +kernel)⟩
theorem lw_p21 : lw_okq (⟨"DataShrinker$Reach", "goRound", "()Z"⟩, 12) := ⟨⟨by decide +kernel, by decide +kernel⟩, List.mem_of_getElem? (i := 107) (by decide +kernel), List.mem_of_getElem? (i := 589) (by decide +kernel), List.mem_of_getElem? (i := 590) (by decide +kernel)⟩
theorem lw_p22 : lw_okq (⟨"DataShrinker$Reach", "takeOn", "(II)V"⟩, 12) := ⟨⟨by decide +kernel, by decide +kernel⟩, List.mem_of_getElem? (i := 107) (by decide +kernel), List.mem_of_getElem? (i := 601) (by decide +kernel), List.mem_of_getElem? (i := 602) (by decide +kernel)⟩
theorem lw_p23 : lw_okq (⟨"DataShrinker$Reach", "wake", "(I)V"⟩, 12) := ⟨⟨by decide +kernel, by decide +kernel⟩, List.mem_of_getElem? (i := 107) (by decide +kernel), List.mem_of_getElem? (i := 605) (by decide +kernel), List.mem_of_getElem? (i := 606) (by decide +kernel)⟩
theorem lw_p24 : lw_okq (⟨"DataShrinker$Reach", "takeStore", "(IIII)Z"⟩, 12) := ⟨⟨by decide +kernel, by decide +kernel⟩, List.mem_of_getElem? (i := 107) (by decide +kernel), List.mem_of_getElem? (i := 609) (by decide +kernel), List.mem_of_getElem? (i := 610) (by decide +kernel)⟩
theorem lw_p25 : lw_okq (⟨"DataShrinker$Reach", "placesIn", "(II)J"⟩, 12) := ⟨⟨by decide +kernel, by decide +kernel⟩, List.mem_of_getElem? (i := 107) (by decide +kernel), List.mem_of_getElem? (i := 613) (by decide +kernel), List.mem_of_getElem? (i := 614) (by decide +kernel)⟩
theorem lw_p26 : lw_okq (⟨"DataShrinker$Reach", "flow", "(IIII)V"⟩, 12) := ⟨⟨by decide +kernel, by decide +kernel⟩, List.mem_of_getElem? (i := 107) (by decide +kernel), List.mem_of_getElem? (i := 621) (by decide +kernel), List.mem_of_getElem? (i := 622) (by decide +kernel)⟩
theorem lw_p27 : lw_okq (⟨"DataShrinker$Reach", "takeCall", "(III)V"⟩, 12) := ⟨⟨by decide +kernel, by decide +kernel⟩, List.mem_of_getElem? (i := 107) (by decide +kernel), List.mem_of_getElem? (i := 625) (by decide +kernel), List.mem_of_getElem? (i := 626) (by decide +kernel)⟩
theorem lw_p28 : lw_okq (⟨"DataShrinker$Reach", "takeNought", "(IIII)V"⟩, 12) := ⟨⟨by decide +kernel, by decide +kernel⟩, List.mem_of_getElem? (i := 107) (by decide +kernel), List.mem_of_getElem? (i := 633) (by decide +kernel), List.mem_of_getElem? (i := 634) (by decide +kernel)⟩
theorem lw_p29 : lw_okq (⟨"DataShrinker$Reach", "makeRest", "(II)Z"⟩, 12) := ⟨⟨by decide +kernel, by decide +kernel⟩, List.mem_of_getElem? (i := 107) (by decide +kernel), List.mem_of_getElem? (i := 637) (by decide +kernel), List.mem_of_getElem? (i := 638) (by decide +kernel)⟩
theorem lw_p30 : lw_okq (⟨"DataShrinker$Reach", "takeLoad", "(IIII)Z"⟩, 12) := ⟨⟨by decide +kernel, by decide +kernel⟩, List.mem_of_getElem? (i := 107) (by decide +kernel), List.mem_of_getElem? (i := 645) (by decide +kernel), List.mem_of_getElem? (i := 646) (by decide +kernel)⟩
theorem lw_p31 : lw_okq (⟨"DataShrinker$Reach", "takeFollow", "(IIII)Z"⟩, 12) := ⟨⟨by decide +kernel, by decide +kernel⟩, List.mem_of_getElem? (i := 107) (by decide +kernel), List.mem_of_getElem? (i := 649) (by decide +kernel), List.mem_of_getElem? (i := 650) (by decide +kernel)⟩
def lw_privs_2 : List (MethodName × Nat) := [(⟨"DataShrinker$Reach", "findSites", "()V"⟩, 12), (⟨"DataShrinker$Reach", "wakerOf", "(I)I"⟩, 12), (⟨"DataShrinker$Reach", "beginAtEntries", "()V"⟩, 12), (⟨"DataShrinker$Reach", "placeIn", "(II)I"⟩, 12), (⟨"DataShrinker$Reach", "arriveAt", "(II)V"⟩, 12), (⟨"DataShrinker$Reach", "goRound", "()Z"⟩, 12), (⟨"DataShrinker$Reach", "takeOn", "(II)V"⟩, 12), (⟨"DataShrinker$Reach", "wake", "(I)V"⟩, 12), (⟨"DataShrinker$Reach", "takeStore", "(IIII)Z"⟩, 12), (⟨"DataShrinker$Reach", "placesIn", "(II)J"⟩, 12), (⟨"DataShrinker$Reach", "flow", "(IIII)V"⟩, 12), (⟨"DataShrinker$Reach", "takeCall", "(III)V"⟩, 12), (⟨"DataShrinker$Reach", "takeNought", "(IIII)V"⟩, 12), (⟨"DataShrinker$Reach", "makeRest", "(II)Z"⟩, 12), (⟨"DataShrinker$Reach", "takeLoad", "(IIII)Z"⟩, 12), (⟨"DataShrinker$Reach", "takeFollow", "(IIII)Z"⟩, 12)]
theorem lw_r2 : ∀ q ∈ lw_privs_2, lw_okq q := List.forall_mem_cons.mpr ⟨lw_p16, List.forall_mem_cons.mpr ⟨lw_p17, List.forall_mem_cons.mpr ⟨lw_p18, List.forall_mem_cons.mpr ⟨lw_p19, List.forall_mem_cons.mpr ⟨lw_p20, List.forall_mem_cons.mpr ⟨lw_p21, List.forall_mem_cons.mpr ⟨lw_p22, List.forall_mem_cons.mpr ⟨lw_p23, List.forall_mem_cons.mpr ⟨lw_p24, List.forall_mem_cons.mpr ⟨lw_p25, List.forall_mem_cons.mpr ⟨lw_p26, List.forall_mem_cons.mpr ⟨lw_p27, List.forall_mem_cons.mpr ⟨lw_p28, List.forall_mem_cons.mpr ⟨lw_p29, List.forall_mem_cons.mpr ⟨lw_p30, List.forall_mem_cons.mpr ⟨lw_p31, fun _ h => absurd h List.not_mem_nil⟩⟩⟩⟩⟩⟩⟩⟩⟩⟩⟩⟩⟩⟩⟩⟩
theorem lw_p32 : lw_okq (⟨"DataShrinker$Reach", "makeSimple", "(II)V"⟩, 12) := ⟨⟨by decide +kernel, by decide +kernel⟩, List.mem_of_getElem? (i := 107) (by decide +kernel), List.mem_of_getElem? (i := 653) (by decide +kernel), List.mem_of_getElem? (i := 654) (by decide +kernel)⟩
theorem lw_p33 : lw_okq (⟨"DataShrinker$Reach", "takeSame", "(II)V"⟩, 12) := ⟨⟨by decide +kernel, by decide +kernel⟩, List.mem_of_getElem? (i := 107) (by decide +kernel), List.mem_of_getElem? (i := 673) (by decide +kernel), List.mem_of_getElem? (i := 674) (by decide +kernel)⟩
theorem lw_p34 : lw_okq (⟨"DataShrinker$Chains", "stepOn", "(JI)J"⟩, 2) := ⟨⟨by decide +kernel, by decide +kernel⟩, List.mem_of_getElem? (i := 113) (by decide +kernel), List.mem_of_getElem? (i := 683) (by decide +kernel), List.mem_of_getElem? (i := 684) (by decide +kernel)⟩
theorem lw_p35 : lw_okq (⟨"DataShrinker$Layout", "begin", "()V"⟩, 14) := ⟨⟨by decide +kernel, by decide +kernel⟩, List.mem_of_getElem? (i := 173) (by decide +kernel), List.mem_of_getElem? (i := 692) (by decide +kernel), List.mem_of_getElem? (i := 693) (by decide +kernel)⟩
theorem lw_p36 : lw_okq (⟨"DataShrinker$Layout", "keepItems", "()V"⟩, 14) := ⟨⟨by decide +kernel, by decide +kernel⟩, List.mem_of_getElem? (i := 173) (by decide +kernel), List.mem_of_getElem? (i := 698) (by decide +kernel), List.mem_of_getElem? (i := 699) (by decide +kernel)⟩
theorem lw_p37 : lw_okq (⟨"DataShrinker$Layout", "keepGroups", "()V"⟩, 14) := ⟨⟨by decide +kernel, by decide +kernel⟩, List.mem_of_getElem? (i := 173) (by decide +kernel), List.mem_of_getElem? (i := 702) (by decide +kernel), List.mem_of_getElem? (i := 703) (by decide +kernel)⟩
theorem lw_p38 : lw_okq (⟨"DataShrinker$Layout", "findStill", "()V"⟩, 14) := ⟨⟨by decide +kernel, by decide +kernel⟩, List.mem_of_getElem? (i := 173) (by decide +kernel), List.mem_of_getElem? (i := 706) (by decide +kernel), List.mem_of_getElem? (i := 707) (by decide +kernel)⟩
theorem lw_p39 : lw_okq (⟨"DataShrinker$Layout", "joinAlike", "()V"⟩, 14) := ⟨⟨by decide +kernel, by decide +kernel⟩, List.mem_of_getElem? (i := 173) (by decide +kernel), List.mem_of_getElem? (i := 710) (by decide +kernel), List.mem_of_getElem? (i := 711) (by decide +kernel)⟩
theorem lw_p40 : lw_okq (⟨"DataShrinker$Layout", "standsStill", "(I)Z"⟩, 14) := ⟨⟨by decide +kernel, by decide +kernel⟩, List.mem_of_getElem? (i := 173) (by decide +kernel), List.mem_of_getElem? (i := 714) (by decide +kernel), List.mem_of_getElem? (i := 715) (by decide +kernel)⟩
theorem lw_p41 : lw_okq (⟨"DataShrinker$Layout", "endsWith", "(II)Z"⟩, 14) := ⟨⟨by decide +kernel, by decide +kernel⟩, List.mem_of_getElem? (i := 173) (by decide +kernel), List.mem_of_getElem? (i := 718) (by decide +kernel), List.mem_of_getElem? (i := 719) (by decide +kernel)⟩
theorem lw_p42 : lw_okq (⟨"DataShrinker$Layout", "layTails", "()V"⟩, 14) := ⟨⟨by decide +kernel, by decide +kernel⟩, List.mem_of_getElem? (i := 173) (by decide +kernel), List.mem_of_getElem? (i := 725) (by decide +kernel), List.mem_of_getElem? (i := 726) (by decide +kernel)⟩
theorem lw_p43 : lw_okq (⟨"DataShrinker$Layout", "holdsAny", "(I)Z"⟩, 14) := ⟨⟨by decide +kernel, by decide +kernel⟩, List.mem_of_getElem? (i := 173) (by decide +kernel), List.mem_of_getElem? (i := 729) (by decide +kernel), List.mem_of_getElem? (i := 730) (by decide +kernel)⟩
theorem lw_p44 : lw_okq (⟨"DataShrinker$Layout", "findOuter", "(I)I"⟩, 14) := ⟨⟨by decide +kernel, by decide +kernel⟩, List.mem_of_getElem? (i := 173) (by decide +kernel), List.mem_of_getElem? (i := 733) (by decide +kernel), List.mem_of_getElem? (i := 734) (by decide +kernel)⟩
theorem lw_p45 : lw_okq (⟨"DataShrinker$Layout", "fitsAlign", "(II)Z"⟩, 14) := ⟨⟨by decide +kernel, by decide +kernel⟩, List.mem_of_getElem? (i := 173) (by decide +kernel), List.mem_of_getElem? (i := 737) (by decide +kernel), List.mem_of_getElem? (i := 738) (by decide +kernel)⟩
theorem lw_p46 : lw_okq (⟨"DataShrinker$Layout", "listBlocks", "()V"⟩, 14) := ⟨⟨by decide +kernel, by decide +kernel⟩, List.mem_of_getElem? (i := 173) (by decide +kernel), List.mem_of_getElem? (i := 741) (by decide +kernel), List.mem_of_getElem? (i := 742) (by decide +kernel)⟩
theorem lw_p47 : lw_okq (⟨"DataShrinker$BlockOrder", "measure", "(I[I[I)V"⟩, 2) := ⟨⟨by decide +kernel, by decide +kernel⟩, List.mem_of_getElem? (i := 179) (by decide +kernel), List.mem_of_getElem? (i := 754) (by decide +kernel), List.mem_of_getElem? (i := 755) (by decide +kernel)⟩
def lw_privs_3 : List (MethodName × Nat) := [(⟨"DataShrinker$Reach", "makeSimple", "(II)V"⟩, 12), (⟨"DataShrinker$Reach", "takeSame", "(II)V"⟩, 12), (⟨"DataShrinker$Chains", "stepOn", "(JI)J"⟩, 2), (⟨"DataShrinker$Layout", "begin", "()V"⟩, 14), (⟨"DataShrinker$Layout", "keepItems", "()V"⟩, 14), (⟨"DataShrinker$Layout", "keepGroups", "()V"⟩, 14), (⟨"DataShrinker$Layout", "findStill", "()V"⟩, 14), (⟨"DataShrinker$Layout", "joinAlike", "()V"⟩, 14), (⟨"DataShrinker$Layout", "standsStill", "(I)Z"⟩, 14), (⟨"DataShrinker$Layout", "endsWith", "(II)Z"⟩, 14), (⟨"DataShrinker$Layout", "layTails", "()V"⟩, 14), (⟨"DataShrinker$Layout", "holdsAny", "(I)Z"⟩, 14), (⟨"DataShrinker$Layout", "findOuter", "(I)I"⟩, 14), (⟨"DataShrinker$Layout", "fitsAlign", "(II)Z"⟩, 14), (⟨"DataShrinker$Layout", "listBlocks", "()V"⟩, 14), (⟨"DataShrinker$BlockOrder", "measure", "(I[I[I)V"⟩, 2)]
theorem lw_r3 : ∀ q ∈ lw_privs_3, lw_okq q := List.forall_mem_cons.mpr ⟨lw_p32, List.forall_mem_cons.mpr ⟨lw_p33, List.forall_mem_cons.mpr ⟨lw_p34, List.forall_mem_cons.mpr ⟨lw_p35, List.forall_mem_cons.mpr ⟨lw_p36, List.forall_mem_cons.mpr ⟨lw_p37, List.forall_mem_cons.mpr ⟨lw_p38, List.forall_mem_cons.mpr ⟨lw_p39, List.forall_mem_cons.mpr ⟨lw_p40, List.forall_mem_cons.mpr ⟨lw_p41, List.forall_mem_cons.mpr ⟨lw_p42, List.forall_mem_cons.mpr ⟨lw_p43, List.forall_mem_cons.mpr ⟨lw_p44, List.forall_mem_cons.mpr ⟨lw_p45, List.forall_mem_cons.mpr ⟨lw_p46, List.forall_mem_cons.mpr ⟨lw_p47, fun _ h => absurd h List.not_mem_nil⟩⟩⟩⟩⟩⟩⟩⟩⟩⟩⟩⟩⟩⟩⟩⟩
theorem lw_p48 : lw_okq (⟨"DataShrinker$BlockOrder", "need", "(III[I[I)I"⟩, 2) := ⟨⟨by decide +kernel, by decide +kernel⟩, List.mem_of_getElem? (i := 179) (by decide +kernel), List.mem_of_getElem? (i := 759) (by decide +kernel), List.mem_of_getElem? (i := 760) (by decide +kernel)⟩
theorem lw_p49 : lw_okq (⟨"DataShrinker$BlockOrder", "choose", "(III[I[I)I"⟩, 2) := ⟨⟨by decide +kernel, by decide +kernel⟩, List.mem_of_getElem? (i := 179) (by decide +kernel), List.mem_of_getElem? (i := 767) (by decide +kernel), List.mem_of_getElem? (i := 768) (by decide +kernel)⟩
theorem lw_p50 : lw_okq (⟨"DataShrinker$Layout", "placeBlocks", "()V"⟩, 14) := ⟨⟨by decide +kernel, by decide +kernel⟩, List.mem_of_getElem? (i := 173) (by decide +kernel), List.mem_of_getElem? (i := 771) (by decide +kernel), List.mem_of_getElem? (i := 772) (by decide +kernel)⟩
theorem lw_p51 : lw_okq (⟨"DataShrinker$Layout", "placeOthers", "()V"⟩, 14) := ⟨⟨by decide +kernel, by decide +kernel⟩, List.mem_of_getElem? (i := 173) (by decide +kernel), List.mem_of_getElem? (i := 776) (by decide +kernel), List.mem_of_getElem? (i := 777) (by decide +kernel)⟩
theorem lw_p52 : lw_okq (⟨"DataShrinker$Layout", "writeOctets", "()V"⟩, 14) := ⟨⟨by decide +kernel, by decide +kernel⟩, List.mem_of_getElem? (i := 173) (by decide +kernel), List.mem_of_getElem? (i := 780) (by decide +kernel), List.mem_of_getElem? (i := 781) (by decide +kernel)⟩
theorem lw_p53 : lw_okq (⟨"DataShrinker", "hadItem", "(I)Z"⟩, 6) := ⟨⟨by decide +kernel, by decide +kernel⟩, List.mem_of_getElem? (i := 16) (by decide +kernel), List.mem_of_getElem? (i := 788) (by decide +kernel), List.mem_of_getElem? (i := 789) (by decide +kernel)⟩
theorem lw_p54 : lw_okq (⟨"DataShrinker$Layout", "isDropped", "(I)Z"⟩, 14) := ⟨⟨by decide +kernel, by decide +kernel⟩, List.mem_of_getElem? (i := 173) (by decide +kernel), List.mem_of_getElem? (i := 845) (by decide +kernel), List.mem_of_getElem? (i := 846) (by decide +kernel)⟩
theorem lw_p55 : lw_okq (⟨"DataShrinkerModel", "has", "(II)Z"⟩, 59) := ⟨⟨by decide +kernel, by decide +kernel⟩, List.mem_of_getElem? (i := 856) (by decide +kernel), List.mem_of_getElem? (i := 1050) (by decide +kernel), List.mem_of_getElem? (i := 1051) (by decide +kernel)⟩
theorem lw_p56 : lw_okq (⟨"DataShrinkerModel", "goes", "(I)I"⟩, 59) := ⟨⟨by decide +kernel, by decide +kernel⟩, List.mem_of_getElem? (i := 856) (by decide +kernel), List.mem_of_getElem? (i := 1092) (by decide +kernel), List.mem_of_getElem? (i := 1093) (by decide +kernel)⟩
theorem lw_p57 : lw_okq (⟨"DataShrinkerModel", "place", "(II)I"⟩, 59) := ⟨⟨by decide +kernel, by decide +kernel⟩, List.mem_of_getElem? (i := 856) (by decide +kernel), List.mem_of_getElem? (i := 1096) (by decide +kernel), List.mem_of_getElem? (i := 1097) (by decide +kernel)⟩
theorem lw_p58 : lw_okq (⟨"DataShrinkerModel", "reach", "()V"⟩, 59) := ⟨⟨by decide +kernel, by decide +kernel⟩, List.mem_of_getElem? (i := 856) (by decide +kernel), List.mem_of_getElem? (i := 1116) (by decide +kernel), List.mem_of_getElem? (i := 1117) (by decide +kernel)⟩
theorem lw_p59 : lw_okq (⟨"DataShrinkerModel", "comes", "(II)V"⟩, 59) := ⟨⟨by decide +kernel, by decide +kernel⟩, List.mem_of_getElem? (i := 856) (by decide +kernel), List.mem_of_getElem? (i := 1120) (by decide +kernel), List.mem_of_getElem? (i := 1121) (by decide +kernel)⟩
theorem lw_p60 : lw_okq (⟨"DataShrinkerModel", "takes", "(II)V"⟩, 59) := ⟨⟨by decide +kernel, by decide +kernel⟩, List.mem_of_getElem? (i := 856) (by decide +kernel), List.mem_of_getElem? (i := 1124) (by decide +kernel), List.mem_of_getElem? (i := 1125) (by decide +kernel)⟩
theorem lw_p61 : lw_okq (⟨"DataShrinkerModel", "returned", "(I)V"⟩, 59) := ⟨⟨by decide +kernel, by decide +kernel⟩, List.mem_of_getElem? (i := 856) (by decide +kernel), List.mem_of_getElem? (i := 1128) (by decide +kernel), List.mem_of_getElem? (i := 1129) (by decide +kernel)⟩
theorem lw_p62 : lw_okq (⟨"DataShrinkerModel", "empty", "()V"⟩, 59) := ⟨⟨by decide +kernel, by decide +kernel⟩, List.mem_of_getElem? (i := 856) (by decide +kernel), List.mem_of_getElem? (i := 1132) (by decide +kernel), List.mem_of_getElem? (i := 1133) (by decide +kernel)⟩
theorem lw_p63 : lw_okq (⟨"DataShrinkerModel", "put", "(I)V"⟩, 59) := ⟨⟨by decide +kernel, by decide +kernel⟩, List.mem_of_getElem? (i := 856) (by decide +kernel), List.mem_of_getElem? (i := 1136) (by decide +kernel), List.mem_of_getElem? (i := 1137) (by decide +kernel)⟩
def lw_privs_4 : List (MethodName × Nat) := [(⟨"DataShrinker$BlockOrder", "need", "(III[I[I)I"⟩, 2), (⟨"DataShrinker$BlockOrder", "choose", "(III[I[I)I"⟩, 2), (⟨"DataShrinker$Layout", "placeBlocks", "()V"⟩, 14), (⟨"DataShrinker$Layout", "placeOthers", "()V"⟩, 14), (⟨"DataShrinker$Layout", "writeOctets", "()V"⟩, 14), (⟨"DataShrinker", "hadItem", "(I)Z"⟩, 6), (⟨"DataShrinker$Layout", "isDropped", "(I)Z"⟩, 14), (⟨"DataShrinkerModel", "has", "(II)Z"⟩, 59), (⟨"DataShrinkerModel", "goes", "(I)I"⟩, 59), (⟨"DataShrinkerModel", "place", "(II)I"⟩, 59), (⟨"DataShrinkerModel", "reach", "()V"⟩, 59), (⟨"DataShrinkerModel", "comes", "(II)V"⟩, 59), (⟨"DataShrinkerModel", "takes", "(II)V"⟩, 59), (⟨"DataShrinkerModel", "returned", "(I)V"⟩, 59), (⟨"DataShrinkerModel", "empty", "()V"⟩, 59), (⟨"DataShrinkerModel", "put", "(I)V"⟩, 59)]
theorem lw_r4 : ∀ q ∈ lw_privs_4, lw_okq q := List.forall_mem_cons.mpr ⟨lw_p48, List.forall_mem_cons.mpr ⟨lw_p49, List.forall_mem_cons.mpr ⟨lw_p50, List.forall_mem_cons.mpr ⟨lw_p51, List.forall_mem_cons.mpr ⟨lw_p52, List.forall_mem_cons.mpr ⟨lw_p53, List.forall_mem_cons.mpr ⟨lw_p54, List.forall_mem_cons.mpr ⟨lw_p55, List.forall_mem_cons.mpr ⟨lw_p56, List.forall_mem_cons.mpr ⟨lw_p57, List.forall_mem_cons.mpr ⟨lw_p58, List.forall_mem_cons.mpr ⟨lw_p59, List.forall_mem_cons.mpr ⟨lw_p60, List.forall_mem_cons.mpr ⟨lw_p61, List.forall_mem_cons.mpr ⟨lw_p62, List.forall_mem_cons.mpr ⟨lw_p63, fun _ h => absurd h List.not_mem_nil⟩⟩⟩⟩⟩⟩⟩⟩⟩⟩⟩⟩⟩⟩⟩⟩
theorem lw_p64 : lw_okq (⟨"DataShrinkerModel", "gets", "(I)V"⟩, 59) := ⟨⟨by decide +kernel, by decide +kernel⟩, List.mem_of_getElem? (i := 856) (by decide +kernel), List.mem_of_getElem? (i := 1140) (by decide +kernel), List.mem_of_getElem? (i := 1141) (by decide +kernel)⟩
theorem lw_p65 : lw_okq (⟨"DataShrinkerModel", "hasValue", "([JII)Z"⟩, 59) := ⟨⟨by decide +kernel, by decide +kernel⟩, List.mem_of_getElem? (i := 856) (by decide +kernel), List.mem_of_getElem? (i := 1144) (by decide +kernel), List.mem_of_getElem? (i := 1145) (by decide +kernel)⟩
theorem lw_p66 : lw_okq (⟨"DataShrinkerModel", "loads", "(II)Z"⟩, 59) := ⟨⟨by decide +kernel, by decide +kernel⟩, List.mem_of_getElem? (i := 856) (by decide +kernel), List.mem_of_getElem? (i := 1148) (by decide +kernel), List.mem_of_getElem? (i := 1149) (by decide +kernel)⟩
theorem lw_p67 : lw_okq (⟨"DataShrinkerModel", "stores", "(III)Z"⟩, 59) := ⟨⟨by decide +kernel, by decide +kernel⟩, List.mem_of_getElem? (i := 856) (by decide +kernel), List.mem_of_getElem? (i := 1152) (by decide +kernel), List.mem_of_getElem? (i := 1153) (by decide +kernel)⟩
theorem lw_p68 : lw_okq (⟨"DataShrinkerModel", "skips", "(IIII)Z"⟩, 59) := ⟨⟨by decide +kernel, by decide +kernel⟩, List.mem_of_getElem? (i := 856) (by decide +kernel), List.mem_of_getElem? (i := 1156) (by decide +kernel), List.mem_of_getElem? (i := 1157) (by decide +kernel)⟩
theorem lw_p69 : lw_okq (⟨"DataShrinkerModel", "follows", "(II)Z"⟩, 59) := ⟨⟨by decide +kernel, by decide +kernel⟩, List.mem_of_getElem? (i := 856) (by decide +kernel), List.mem_of_getElem? (i := 1162) (by decide +kernel), List.mem_of_getElem? (i := 1163) (by decide +kernel)⟩
theorem lw_p70 : lw_okq (⟨"DataShrinkerModel", "keeps", "()V"⟩, 59) := ⟨⟨by decide +kernel, by decide +kernel⟩, List.mem_of_getElem? (i := 856) (by decide +kernel), List.mem_of_getElem? (i := 1166) (by decide +kernel), List.mem_of_getElem? (i := 1167) (by decide +kernel)⟩
theorem lw_p71 : lw_okq (⟨"DataShrinkerModel", "reads", "(I)Z"⟩, 59) := ⟨⟨by decide +kernel, by decide +kernel⟩, List.mem_of_getElem? (i := 856) (by decide +kernel), List.mem_of_getElem? (i := 1170) (by decide +kernel), List.mem_of_getElem? (i := 1171) (by decide +kernel)⟩
theorem lw_p72 : lw_okq (⟨"DataShrinkerModel", "chains", "()V"⟩, 59) := ⟨⟨by decide +kernel, by decide +kernel⟩, List.mem_of_getElem? (i := 856) (by decide +kernel), List.mem_of_getElem? (i := 1174) (by decide +kernel), List.mem_of_getElem? (i := 1175) (by decide +kernel)⟩
theorem lw_p73 : lw_okq (⟨"DataShrinkerModel", "leads", "(II)V"⟩, 59) := ⟨⟨by decide +kernel, by decide +kernel⟩, List.mem_of_getElem? (i := 856) (by decide +kernel), List.mem_of_getElem? (i := 1178) (by decide +kernel), List.mem_of_getElem? (i := 1179) (by decide +kernel)⟩
theorem lw_p74 : lw_okq (⟨"DataShrinkerModel", "readsBy", "(IZ)Z"⟩, 59) := ⟨⟨by decide +kernel, by decide +kernel⟩, List.mem_of_getElem? (i := 856) (by decide +kernel), List.mem_of_getElem? (i := 1182) (by decide +kernel), List.mem_of_getElem? (i := 1183) (by decide +kernel)⟩
theorem lw_p75 : lw_okq (⟨"DataShrinkerModel", "lays", "()V"⟩, 59) := ⟨⟨by decide +kernel, by decide +kernel⟩, List.mem_of_getElem? (i := 856) (by decide +kernel), List.mem_of_getElem? (i := 1186) (by decide +kernel), List.mem_of_getElem? (i := 1187) (by decide +kernel)⟩
theorem lw_p76 : lw_okq (⟨"DataShrinkerModel", "joins", "()V"⟩, 59) := ⟨⟨by decide +kernel, by decide +kernel⟩, List.mem_of_getElem? (i := 856) (by decide +kernel), List.mem_of_getElem? (i := 1190) (by decide +kernel), List.mem_of_getElem? (i := 1191) (by decide +kernel)⟩
theorem lw_p77 : lw_okq (⟨"DataShrinkerModel", "refers", "(I)Z"⟩, 59) := ⟨⟨by decide +kernel, by decide +kernel⟩, List.mem_of_getElem? (i := 856) (by decide +kernel), List.mem_of_getElem? (i := 1194) (by decide +kernel), List.mem_of_getElem? (i := 1195) (by decide +kernel)⟩
theorem lw_p78 : lw_okq (⟨"DataShrinkerModel", "endsWith", "(II)Z"⟩, 59) := ⟨⟨by decide +kernel, by decide +kernel⟩, List.mem_of_getElem? (i := 856) (by decide +kernel), List.mem_of_getElem? (i := 1198) (by decide +kernel), List.mem_of_getElem? (i := 1199) (by decide +kernel)⟩
theorem lw_p79 : lw_okq (⟨"DataShrinkerModel", "tries", "()V"⟩, 59) := ⟨⟨by decide +kernel, by decide +kernel⟩, List.mem_of_getElem? (i := 856) (by decide +kernel), List.mem_of_getElem? (i := 1202) (by decide +kernel), List.mem_of_getElem? (i := 1203) (by decide +kernel)⟩
def lw_privs_5 : List (MethodName × Nat) := [(⟨"DataShrinkerModel", "gets", "(I)V"⟩, 59), (⟨"DataShrinkerModel", "hasValue", "([JII)Z"⟩, 59), (⟨"DataShrinkerModel", "loads", "(II)Z"⟩, 59), (⟨"DataShrinkerModel", "stores", "(III)Z"⟩, 59), (⟨"DataShrinkerModel", "skips", "(IIII)Z"⟩, 59), (⟨"DataShrinkerModel", "follows", "(II)Z"⟩, 59), (⟨"DataShrinkerModel", "keeps", "()V"⟩, 59), (⟨"DataShrinkerModel", "reads", "(I)Z"⟩, 59), (⟨"DataShrinkerModel", "chains", "()V"⟩, 59), (⟨"DataShrinkerModel", "leads", "(II)V"⟩, 59), (⟨"DataShrinkerModel", "readsBy", "(IZ)Z"⟩, 59), (⟨"DataShrinkerModel", "lays", "()V"⟩, 59), (⟨"DataShrinkerModel", "joins", "()V"⟩, 59), (⟨"DataShrinkerModel", "refers", "(I)Z"⟩, 59), (⟨"DataShrinkerModel", "endsWith", "(II)Z"⟩, 59), (⟨"DataShrinkerModel", "tries", "()V"⟩, 59)]
theorem lw_r5 : ∀ q ∈ lw_privs_5, lw_okq q := List.forall_mem_cons.mpr ⟨lw_p64, List.forall_mem_cons.mpr ⟨lw_p65, List.forall_mem_cons.mpr ⟨lw_p66, List.forall_mem_cons.mpr ⟨lw_p67, List.forall_mem_cons.mpr ⟨lw_p68, List.forall_mem_cons.mpr ⟨lw_p69, List.forall_mem_cons.mpr ⟨lw_p70, List.forall_mem_cons.mpr ⟨lw_p71, List.forall_mem_cons.mpr ⟨lw_p72, List.forall_mem_cons.mpr ⟨lw_p73, List.forall_mem_cons.mpr ⟨lw_p74, List.forall_mem_cons.mpr ⟨lw_p75, List.forall_mem_cons.mpr ⟨lw_p76, List.forall_mem_cons.mpr ⟨lw_p77, List.forall_mem_cons.mpr ⟨lw_p78, List.forall_mem_cons.mpr ⟨lw_p79, fun _ h => absurd h List.not_mem_nil⟩⟩⟩⟩⟩⟩⟩⟩⟩⟩⟩⟩⟩⟩⟩⟩
theorem lw_p80 : lw_okq (⟨"DataShrinkerModel", "bytesOf", "()I"⟩, 59) := ⟨⟨by decide +kernel, by decide +kernel⟩, List.mem_of_getElem? (i := 856) (by decide +kernel), List.mem_of_getElem? (i := 1206) (by decide +kernel), List.mem_of_getElem? (i := 1207) (by decide +kernel)⟩
theorem lw_p81 : lw_okq (⟨"DataShrinkerModel", "wasItem", "(I)Z"⟩, 59) := ⟨⟨by decide +kernel, by decide +kernel⟩, List.mem_of_getElem? (i := 856) (by decide +kernel), List.mem_of_getElem? (i := 1217) (by decide +kernel), List.mem_of_getElem? (i := 1218) (by decide +kernel)⟩
def lw_privs_6 : List (MethodName × Nat) := [(⟨"DataShrinkerModel", "bytesOf", "()I"⟩, 59), (⟨"DataShrinkerModel", "wasItem", "(I)Z"⟩, 59)]
theorem lw_r6 : ∀ q ∈ lw_privs_6, lw_okq q := List.forall_mem_cons.mpr ⟨lw_p80, List.forall_mem_cons.mpr ⟨lw_p81, fun _ h => absurd h List.not_mem_nil⟩⟩
def lw_privs : List (MethodName × Nat) := lw_privs_1 ++ (lw_privs_2 ++ (lw_privs_3 ++ (lw_privs_4 ++ (lw_privs_5 ++ (lw_privs_6)))))
def lw_tbl : List Cond := k2_sels lw_privs ++ tables_1
theorem lw_privs_ok : ∀ q ∈ lw_privs, lw_okq q := by
  show ∀ q ∈ lw_privs_1 ++ (lw_privs_2 ++ (lw_privs_3 ++ (lw_privs_4 ++ (lw_privs_5 ++ (lw_privs_6))))), lw_okq q
  exact List.forall_mem_append.mpr ⟨lw_r1, List.forall_mem_append.mpr ⟨lw_r2, List.forall_mem_append.mpr ⟨lw_r3, List.forall_mem_append.mpr ⟨lw_r4, List.forall_mem_append.mpr ⟨lw_r5, lw_r6⟩⟩⟩⟩⟩
theorem xmem {ws : List Cond} (ps : List Nat) (h : ws = ps.filterMap (fun i => lw_tbl[i]?)) : ∀ w ∈ ws, w ∈ lw_tbl := by
  intro w hw
  rw [h] at hw
  obtain ⟨i, -, hi⟩ := List.mem_filterMap.mp hw
  exact List.mem_of_getElem? hi
def xR0 : String := "DataShrinker$BlockOrder"
def xF0 : u_T := fun k => match k with
  | 0 => ("DataShrinker$BlockOrder", "taken", "[I", true)
  | _ => ("DataShrinker$BlockOrder", "fewest", "[I", true)
def xY0 : Nat → FieldType := fun k => match k with
  | 0 => .array .int
  | _ => .array .int
theorem xn0 : ∀ a, a < 2 → ∀ b, b < 2 → a ≠ b → (xF0 a).2.1 ≠ (xF0 b).2.1 := by decide +kernel
theorem xt0 : ∀ k, k < 2 → parseFieldDescriptor (xF0 k).2.2.1 = some (xY0 k) := by decide +kernel
set_option maxRecDepth 20000 in
theorem xi0 : ∀ w ∈ u_ws xR0 xF0 2, w ∈ lw_tbl := xmem [268, 270] rfl
def xR1 : String := "DataShrinker$Chains"
def xF1 : u_T := fun k => match k with
  | 0 => ("DataShrinker$Chains", "leads", "[J", true)
  | _ => ("DataShrinker$Chains", "lengths", "[I", true)
def xY1 : Nat → FieldType := fun k => match k with
  | 0 => .array .long
  | _ => .array .int
theorem xn1 : ∀ a, a < 2 → ∀ b, b < 2 → a ≠ b → (xF1 a).2.1 ≠ (xF1 b).2.1 := by decide +kernel
theorem xt1 : ∀ k, k < 2 → parseFieldDescriptor (xF1 k).2.2.1 = some (xY1 k) := by decide +kernel
set_option maxRecDepth 20000 in
theorem xi1 : ∀ w ∈ u_ws xR1 xF1 2, w ∈ lw_tbl := xmem [203, 205] rfl
def xR2 : String := "DataShrinker$Layout"
def xF2 : u_T := fun k => match k with
  | 0 => ("DataShrinker$Layout", "program", "LDataShrinker$Program;", true)
  | 1 => ("DataShrinker$Layout", "reach", "LDataShrinker$Reach;", true)
  | 2 => ("DataShrinker$Layout", "order", "LDataShrinker$BlockOrder;", true)
  | 3 => ("DataShrinker$Layout", "size", "[I", true)
  | 4 => ("DataShrinker$Layout", "align", "[I", true)
  | 5 => ("DataShrinker$Layout", "isKept", "[Z", true)
  | 6 => ("DataShrinker$Layout", "isStill", "[Z", true)
  | 7 => ("DataShrinker$Layout", "standIn", "[I", true)
  | 8 => ("DataShrinker$Layout", "outer", "[I", true)
  | 9 => ("DataShrinker$Layout", "address", "[I", true)
  | 10 => ("DataShrinker$Layout", "blocks", "[I", true)
  | 11 => ("DataShrinker$Layout", "blockCount", "I", false)
  | 12 => ("DataShrinker$Layout", "octets", "[I", true)
  | _ => ("DataShrinker$Layout", "total", "I", false)
def xY2 : Nat → FieldType := fun k => match k with
  | 0 => .object "DataShrinker$Program"
  | 1 => .object "DataShrinker$Reach"
  | 2 => .object "DataShrinker$BlockOrder"
  | 3 => .array .int
  | 4 => .array .int
  | 5 => .array .boolean
  | 6 => .array .boolean
  | 7 => .array .int
  | 8 => .array .int
  | 9 => .array .int
  | 10 => .array .int
  | 11 => .int
  | 12 => .array .int
  | _ => .int
theorem xn2 : ∀ a, a < 14 → ∀ b, b < 14 → a ≠ b → (xF2 a).2.1 ≠ (xF2 b).2.1 := by decide +kernel
theorem xt2 : ∀ k, k < 14 → parseFieldDescriptor (xF2 k).2.2.1 = some (xY2 k) := by decide +kernel
set_option maxRecDepth 20000 in
theorem xi2 : ∀ w ∈ u_ws xR2 xF2 14, w ∈ lw_tbl := xmem [297, 299, 301, 303, 305, 307, 309, 311, 313, 315, 317, 319, 321, 323] rfl
def xR3 : String := "DataShrinker$Machine"
def xF3 : u_T := fun k => match k with
  | 0 => ("DataShrinker$Machine", "program", "LDataShrinker$Program;", true)
  | 1 => ("DataShrinker$Machine", "memory", "[I", true)
  | 2 => ("DataShrinker$Machine", "home", "[I", true)
  | 3 => ("DataShrinker$Machine", "registers", "[I", true)
  | 4 => ("DataShrinker$Machine", "callers", "[I", true)
  | 5 => ("DataShrinker$Machine", "returns", "[I", true)
  | 6 => ("DataShrinker$Machine", "sent", "[I", true)
  | 7 => ("DataShrinker$Machine", "hasWorked", "Z", false)
  | 8 => ("DataShrinker$Machine", "open", "I", false)
  | 9 => ("DataShrinker$Machine", "current", "I", false)
  | 10 => ("DataShrinker$Machine", "place", "I", false)
  | 11 => ("DataShrinker$Machine", "inputTaken", "I", false)
  | 12 => ("DataShrinker$Machine", "sentCount", "I", false)
  | _ => ("DataShrinker$Machine", "done", "I", false)
def xY3 : Nat → FieldType := fun k => match k with
  | 0 => .object "DataShrinker$Program"
  | 1 => .array .int
  | 2 => .array .int
  | 3 => .array .int
  | 4 => .array .int
  | 5 => .array .int
  | 6 => .array .int
  | 7 => .boolean
  | 8 => .int
  | 9 => .int
  | 10 => .int
  | 11 => .int
  | 12 => .int
  | _ => .int
theorem xn3 : ∀ a, a < 14 → ∀ b, b < 14 → a ≠ b → (xF3 a).2.1 ≠ (xF3 b).2.1 := by decide +kernel
theorem xt3 : ∀ k, k < 14 → parseFieldDescriptor (xF3 k).2.2.1 = some (xY3 k) := by decide +kernel
set_option maxRecDepth 20000 in
theorem xi3 : ∀ w ∈ u_ws xR3 xF3 14, w ∈ lw_tbl := xmem [346, 348, 350, 352, 354, 356, 358, 360, 362, 364, 366, 368, 370, 372] rfl
def xR4 : String := "DataShrinker$Program"
def xF4 : u_T := fun k => match k with
  | 0 => ("DataShrinker$Program", "size", "[I", true)
  | 1 => ("DataShrinker$Program", "align", "[I", true)
  | 2 => ("DataShrinker$Program", "group", "[I", true)
  | 3 => ("DataShrinker$Program", "isVital", "[Z", true)
  | 4 => ("DataShrinker$Program", "octets", "[I", true)
  | 5 => ("DataShrinker$Program", "leadsTo", "[I", true)
  | 6 => ("DataShrinker$Program", "references", "[J", true)
  | 7 => ("DataShrinker$Program", "length", "[I", true)
  | 8 => ("DataShrinker$Program", "op", "[I", true)
  | 9 => ("DataShrinker$Program", "a", "[I", true)
  | 10 => ("DataShrinker$Program", "b", "[I", true)
  | 11 => ("DataShrinker$Program", "c", "[I", true)
  | 12 => ("DataShrinker$Program", "isEntry", "[Z", true)
  | 13 => ("DataShrinker$Program", "given", "[I", true)
  | _ => ("DataShrinker$Program", "inputLength", "I", false)
def xY4 : Nat → FieldType := fun k => match k with
  | 0 => .array .int
  | 1 => .array .int
  | 2 => .array .int
  | 3 => .array .boolean
  | 4 => .array .int
  | 5 => .array .int
  | 6 => .array .long
  | 7 => .array .int
  | 8 => .array .int
  | 9 => .array .int
  | 10 => .array .int
  | 11 => .array .int
  | 12 => .array .boolean
  | 13 => .array .int
  | _ => .int
theorem xn4 : ∀ a, a < 15 → ∀ b, b < 15 → a ≠ b → (xF4 a).2.1 ≠ (xF4 b).2.1 := by decide +kernel
theorem xt4 : ∀ k, k < 15 → parseFieldDescriptor (xF4 k).2.2.1 = some (xY4 k) := by decide +kernel
set_option maxRecDepth 20000 in
theorem xi4 : ∀ w ∈ u_ws xR4 xF4 15, w ∈ lw_tbl := xmem [154, 156, 158, 160, 162, 164, 166, 168, 170, 172, 174, 176, 178, 180, 182] rfl
def xR5 : String := "DataShrinker$Reach"
def xF5 : u_T := fun k => match k with
  | 0 => ("DataShrinker$Reach", "program", "LDataShrinker$Program;", true)
  | 1 => ("DataShrinker$Reach", "chains", "LDataShrinker$Chains;", true)
  | 2 => ("DataShrinker$Reach", "length", "[I", true)
  | 3 => ("DataShrinker$Reach", "states", "[J", true)
  | 4 => ("DataShrinker$Reach", "stand", "[J", true)
  | 5 => ("DataShrinker$Reach", "comeTo", "[J", true)
  | 6 => ("DataShrinker$Reach", "waiting", "[J", true)
  | 7 => ("DataShrinker$Reach", "sites", "[J", true)
  | 8 => ("DataShrinker$Reach", "made", "[J", true)
  | 9 => ("DataShrinker$Reach", "placesRead", "[J", true)
  | 10 => ("DataShrinker$Reach", "isWritten", "[Z", true)
  | _ => ("DataShrinker$Reach", "isCompared", "[Z", true)
def xY5 : Nat → FieldType := fun k => match k with
  | 0 => .object "DataShrinker$Program"
  | 1 => .object "DataShrinker$Chains"
  | 2 => .array .int
  | 3 => .array .long
  | 4 => .array .long
  | 5 => .array .long
  | 6 => .array .long
  | 7 => .array .long
  | 8 => .array .long
  | 9 => .array .long
  | 10 => .array .boolean
  | _ => .array .boolean
theorem xn5 : ∀ a, a < 12 → ∀ b, b < 12 → a ≠ b → (xF5 a).2.1 ≠ (xF5 b).2.1 := by decide +kernel
theorem xt5 : ∀ k, k < 12 → parseFieldDescriptor (xF5 k).2.2.1 = some (xY5 k) := by decide +kernel
set_option maxRecDepth 20000 in
theorem xi5 : ∀ w ∈ u_ws xR5 xF5 12, w ∈ lw_tbl := xmem [229, 231, 233, 235, 237, 239, 241, 243, 245, 247, 249, 251] rfl
def xR6 : String := "DataShrinker"
def xF6 : u_T := fun k => match k with
  | 0 => ("DataShrinker", "program", "LDataShrinker$Program;", true)
  | 1 => ("DataShrinker", "reach", "LDataShrinker$Reach;", true)
  | 2 => ("DataShrinker", "layout", "LDataShrinker$Layout;", true)
  | 3 => ("DataShrinker", "machine", "LDataShrinker$Machine;", true)
  | 4 => ("DataShrinker", "wasShrunk", "Z", false)
  | _ => ("DataShrinker", "laidHolds", "Z", false)
def xY6 : Nat → FieldType := fun k => match k with
  | 0 => .object "DataShrinker$Program"
  | 1 => .object "DataShrinker$Reach"
  | 2 => .object "DataShrinker$Layout"
  | 3 => .object "DataShrinker$Machine"
  | 4 => .boolean
  | _ => .boolean
theorem xn6 : ∀ a, a < 6 → ∀ b, b < 6 → a ≠ b → (xF6 a).2.1 ≠ (xF6 b).2.1 := by decide +kernel
theorem xt6 : ∀ k, k < 6 → parseFieldDescriptor (xF6 k).2.2.1 = some (xY6 k) := by decide +kernel
set_option maxRecDepth 20000 in
theorem xi6 : ∀ w ∈ u_ws xR6 xF6 6, w ∈ lw_tbl := xmem [381, 383, 385, 387, 389, 391] rfl
def xR7 : String := "DataShrinkerModel"
def xF7 : u_T := fun k => match k with
  | 0 => ("DataShrinkerModel", "thrown", "I", false)
  | 1 => ("DataShrinkerModel", "size", "[I", true)
  | 2 => ("DataShrinkerModel", "align", "[I", true)
  | 3 => ("DataShrinkerModel", "group", "[I", true)
  | 4 => ("DataShrinkerModel", "told", "[I", true)
  | 5 => ("DataShrinkerModel", "ref", "[I", true)
  | 6 => ("DataShrinkerModel", "vital", "[Z", true)
  | 7 => ("DataShrinkerModel", "length", "[I", true)
  | 8 => ("DataShrinkerModel", "op", "[I", true)
  | 9 => ("DataShrinkerModel", "first", "[I", true)
  | 10 => ("DataShrinkerModel", "second", "[I", true)
  | 11 => ("DataShrinkerModel", "third", "[I", true)
  | 12 => ("DataShrinkerModel", "isEntry", "[Z", true)
  | 13 => ("DataShrinkerModel", "input", "[I", true)
  | 14 => ("DataShrinkerModel", "inputs", "I", false)
  | 15 => ("DataShrinkerModel", "stands", "[I", true)
  | 16 => ("DataShrinkerModel", "register", "[I", true)
  | 17 => ("DataShrinkerModel", "out", "[I", true)
  | 18 => ("DataShrinkerModel", "openFunction", "[I", true)
  | 19 => ("DataShrinkerModel", "openAt", "[I", true)
  | 20 => ("DataShrinkerModel", "outs", "I", false)
  | 21 => ("DataShrinkerModel", "done", "I", false)
  | 22 => ("DataShrinkerModel", "endFunction", "I", false)
  | 23 => ("DataShrinkerModel", "endAt", "I", false)
  | 24 => ("DataShrinkerModel", "hasRun", "Z", false)
  | 25 => ("DataShrinkerModel", "isLaid", "Z", false)
  | 26 => ("DataShrinkerModel", "isFresh", "Z", false)
  | 27 => ("DataShrinkerModel", "hasShrunk", "Z", false)
  | 28 => ("DataShrinkerModel", "state", "[J", true)
  | 29 => ("DataShrinkerModel", "may", "[J", true)
  | 30 => ("DataShrinkerModel", "back", "[J", true)
  | 31 => ("DataShrinkerModel", "isCome", "[Z", true)
  | 32 => ("DataShrinkerModel", "returns", "[Z", true)
  | 33 => ("DataShrinkerModel", "isRead", "[Z", true)
  | 34 => ("DataShrinkerModel", "isFollowed", "[Z", true)
  | 35 => ("DataShrinkerModel", "isWritten", "[Z", true)
  | 36 => ("DataShrinkerModel", "isCompared", "[Z", true)
  | 37 => ("DataShrinkerModel", "now", "[J", true)
  | 38 => ("DataShrinkerModel", "set", "[J", true)
  | 39 => ("DataShrinkerModel", "more", "Z", false)
  | 40 => ("DataShrinkerModel", "isKept", "[Z", true)
  | 41 => ("DataShrinkerModel", "isKeptFunction", "[Z", true)
  | 42 => ("DataShrinkerModel", "why", "[I", true)
  | 43 => ("DataShrinkerModel", "itsSize", "[I", true)
  | 44 => ("DataShrinkerModel", "itsLength", "[I", true)
  | 45 => ("DataShrinkerModel", "address", "[I", true)
  | 46 => ("DataShrinkerModel", "standsFor", "[I", true)
  | 47 => ("DataShrinkerModel", "within", "[I", true)
  | 48 => ("DataShrinkerModel", "itsAlign", "[I", true)
  | 49 => ("DataShrinkerModel", "laid", "[I", true)
  | 50 => ("DataShrinkerModel", "isStill", "[Z", true)
  | 51 => ("DataShrinkerModel", "holds", "[Z", true)
  | 52 => ("DataShrinkerModel", "block", "[I", true)
  | 53 => ("DataShrinkerModel", "order", "[I", true)
  | 54 => ("DataShrinkerModel", "best", "[I", true)
  | 55 => ("DataShrinkerModel", "isUsed", "[Z", true)
  | 56 => ("DataShrinkerModel", "blocks", "I", false)
  | 57 => ("DataShrinkerModel", "laidBytes", "I", false)
  | _ => ("DataShrinkerModel", "least", "I", false)
def xY7 : Nat → FieldType := fun k => match k with
  | 0 => .int
  | 1 => .array .int
  | 2 => .array .int
  | 3 => .array .int
  | 4 => .array .int
  | 5 => .array .int
  | 6 => .array .boolean
  | 7 => .array .int
  | 8 => .array .int
  | 9 => .array .int
  | 10 => .array .int
  | 11 => .array .int
  | 12 => .array .boolean
  | 13 => .array .int
  | 14 => .int
  | 15 => .array .int
  | 16 => .array .int
  | 17 => .array .int
  | 18 => .array .int
  | 19 => .array .int
  | 20 => .int
  | 21 => .int
  | 22 => .int
  | 23 => .int
  | 24 => .boolean
  | 25 => .boolean
  | 26 => .boolean
  | 27 => .boolean
  | 28 => .array .long
  | 29 => .array .long
  | 30 => .array .long
  | 31 => .array .boolean
  | 32 => .array .boolean
  | 33 => .array .boolean
  | 34 => .array .boolean
  | 35 => .array .boolean
  | 36 => .array .boolean
  | 37 => .array .long
  | 38 => .array .long
  | 39 => .boolean
  | 40 => .array .boolean
  | 41 => .array .boolean
  | 42 => .array .int
  | 43 => .array .int
  | 44 => .array .int
  | 45 => .array .int
  | 46 => .array .int
  | 47 => .array .int
  | 48 => .array .int
  | 49 => .array .int
  | 50 => .array .boolean
  | 51 => .array .boolean
  | 52 => .array .int
  | 53 => .array .int
  | 54 => .array .int
  | 55 => .array .boolean
  | 56 => .int
  | 57 => .int
  | _ => .int
theorem xn7 : ∀ a, a < 59 → ∀ b, b < 59 → a ≠ b → (xF7 a).2.1 ≠ (xF7 b).2.1 := by decide +kernel
theorem xt7 : ∀ k, k < 59 → parseFieldDescriptor (xF7 k).2.2.1 = some (xY7 k) := by decide +kernel
set_option maxRecDepth 20000 in
theorem xi7 : ∀ w ∈ u_ws xR7 xF7 59, w ∈ lw_tbl := xmem [1001, 1003, 1005, 1007, 1009, 1011, 1013, 1015, 1017, 1019, 1021, 1023, 1025, 1027, 1029, 1031, 1033, 1035, 1037, 1039, 1041, 1043, 1045, 1047, 1049, 1051, 1053, 1055, 1057, 1059, 1061, 1063, 1065, 1067, 1069, 1071, 1073, 1075, 1077, 1079, 1081, 1083, 1085, 1087, 1089, 1091, 1093, 1095, 1097, 1099, 1101, 1103, 1105, 1107, 1109, 1111, 1113, 1115, 1117] rfl
abbrev xcls : List vw_C := [(xR0, xF0, 2), (xR1, xF1, 2), (xR2, xF2, 14), (xR3, xF3, 14), (xR4, xF4, 15), (xR5, xF5, 12), (xR6, xF6, 6), (xR7, xF7, 59)]
def xcty : List (Nat → FieldType) := [xY0, xY1, xY2, xY3, xY4, xY5, xY6, xY7]
def xshp : List (Nat × Nat × List (Option Nat)) := [(9, 6, [some 1, some 16, some 30, some 43, none, none]),
  (7, 15, [some 2, some 3, some 4, some 5, some 6, some 7, some 8, some 9, some 10, some 11, some 12, some 13, some 14, some 15, none]),
  (0, 24, []),
  (0, 24, []),
  (0, 24, []),
  (2, 24, []),
  (0, 1536, []),
  (0, 1536, []),
  (1, 24, []),
  (0, 12, []),
  (0, 480, []),
  (0, 480, []),
  (0, 480, []),
  (0, 480, []),
  (2, 12, []),
  (0, 200, []),
  (8, 12, [some 1, some 17, some 20, some 21, some 22, some 23, some 24, some 25, some 26, some 27, some 28, some 29]),
  (4, 2, [some 18, some 19]),
  (1, 36, []),
  (0, 36, []),
  (0, 12, []),
  (1, 7872, []),
  (1, 6144, []),
  (1, 12, []),
  (1, 12, []),
  (1, 444, []),
  (1, 4, []),
  (1, 24, []),
  (2, 24, []),
  (2, 24, []),
  (5, 14, [some 1, some 16, some 31, some 34, some 35, some 36, some 37, some 38, some 39, some 40, some 41, none, some 42, none]),
  (3, 2, [some 32, some 33]),
  (0, 7, []),
  (0, 1024, []),
  (0, 24, []),
  (0, 24, []),
  (2, 24, []),
  (2, 24, []),
  (0, 24, []),
  (0, 24, []),
  (0, 24, []),
  (0, 24, []),
  (0, 1728, []),
  (6, 14, [some 1, some 44, some 45, some 46, some 47, some 48, some 49, none, none, none, none, none, none, none]),
  (0, 1728, []),
  (0, 24, []),
  (0, 4, []),
  (0, 16, []),
  (0, 16, []),
  (0, 100, []),
  (10, 59, [none, some 51, some 52, some 53, some 54, some 55, some 56, some 57, some 58, some 59, some 60, some 61, some 62, some 63, none, some 64, some 65, some 66, some 67, some 68, none, none, none, none, none, none, none, none, some 69, some 70, some 71, some 72, some 73, some 74, some 75, some 76, some 77, some 78, some 79, none, some 80, some 81, some 82, some 83, some 84, some 85, some 86, some 87, some 88, some 89, some 90, some 91, some 92, some 93, some 94, some 95, none, none, none]),
  (0, 24, []),
  (0, 24, []),
  (0, 24, []),
  (0, 1536, []),
  (0, 1536, []),
  (2, 24, []),
  (0, 12, []),
  (0, 492, []),
  (0, 492, []),
  (0, 492, []),
  (0, 492, []),
  (2, 12, []),
  (0, 200, []),
  (0, 3072, []),
  (0, 4, []),
  (0, 100, []),
  (0, 16, []),
  (0, 16, []),
  (1, 7872, []),
  (1, 6144, []),
  (1, 192, []),
  (2, 492, []),
  (2, 12, []),
  (2, 1536, []),
  (2, 1536, []),
  (2, 24, []),
  (2, 24, []),
  (1, 16, []),
  (1, 4, []),
  (2, 24, []),
  (2, 12, []),
  (0, 36, []),
  (0, 24, []),
  (0, 12, []),
  (0, 24, []),
  (0, 24, []),
  (0, 24, []),
  (0, 24, []),
  (0, 3072, []),
  (2, 24, []),
  (2, 24, []),
  (0, 24, []),
  (0, 24, []),
  (0, 24, []),
  (2, 24, []),
  (0, 0, []),
  (1, 6, [])]
def xnst : List (String × Nat × MethodName × String) := [("DataShrinker", 11, ⟨"DataShrinker$Program", "<init>", "()V"⟩, "DataShrinker"), ("DataShrinker$Reach", 13, ⟨"DataShrinker$Chains", "<init>", "()V"⟩, "DataShrinker"), ("DataShrinker$Layout", 11, ⟨"DataShrinker$BlockOrder", "<init>", "()V"⟩, "DataShrinker"), ("DataShrinker$Program", 56, ⟨"DataShrinker", "isItemNumber", "(I)Z"⟩, "DataShrinker"), ("DataShrinker$Program", 60, ⟨"DataShrinker", "within", "(III)Z"⟩, "DataShrinker"), ("DataShrinker$Program", 82, ⟨"DataShrinker", "octetOf", "(JI)I"⟩, "DataShrinker"), ("DataShrinker$Program", 64, ⟨"DataShrinker", "isRegister", "(I)Z"⟩, "DataShrinker"), ("DataShrinker$Program", 67, ⟨"DataShrinker", "isFunction", "(I)Z"⟩, "DataShrinker"), ("DataShrinker$Machine", 147, ⟨"DataShrinker", "asNumber", "(Z)I"⟩, "DataShrinker"), ("DataShrinker$Machine", 74, ⟨"DataShrinker", "within", "(III)Z"⟩, "DataShrinker"), ("DataShrinker$Reach", 233, ⟨"DataShrinker", "asNumber", "(Z)I"⟩, "DataShrinker"), ("DataShrinker$Layout", 85, ⟨"DataShrinker", "asNumber", "(Z)I"⟩, "DataShrinker")]
def xhv : Nat → Int64 := fun k => match k with
  | 0 => -6148914691236517206
  | 1 => -3689348814741910324
  | 2 => -1085102592571150096
  | 3 => -71777214294589696
  | 4 => -281470681808896
  | _ => -4294967296
end
section
/-! A small machine over one world of numbered cells: its memory, its frames, what the real heap is to it -/
def xtb : List Cond := lw_tbl.filter goodWord
theorem xtbm {w : Cond} (h : w ∈ lw_tbl) (hg : goodWord w = true) : w ∈ xtb := List.mem_filter.mpr ⟨h, hg⟩
theorem xtb_u {C : String} {T : u_T} {N : Nat} (h : ∀ w ∈ u_ws C T N, w ∈ lw_tbl) : ∀ w ∈ u_ws C T N, w ∈ xtb := by
  intro w hw
  refine xtbm (h w hw) ?_
  obtain ⟨k, -, rfl⟩ := List.mem_map.mp hw
  unfold u_lay
  split <;> rfl
def xNst (U : State) : Prop := ∀ q ∈ xnst, va_Nw (.methodLinkNest q.1 q.2.1 q.2.2.1 q.2.2.2) U
theorem xNst.warm {s U : State} (hW : s.WarmedH U.vm) (h : xNst s) : xNst U := fun q hq => va_Nw.warmM hW (h q hq)
theorem xNst.same {u U : State} (hv : u.vm = U.vm) (h : xNst u) : xNst U := fun q hq => va_Nw.same rfl hv (h q hq)
abbrev xMe : Type := (Nat → Nat → Int32) × (Nat → Nat → Int64)
abbrev xGh : Type := Option (Nat × List (Nat × Nat))
abbrev xG : Type := Nat × Nat × Nat × (Nat → Int32) × Nat × va_G × ClassId × ClassId × ClassId
abbrev xMD : Type := MethodName × ByteArray × Nat × Option FieldType × Room
abbrev xLv : Type := List (Option Value)
abbrev xRw : Type := Nat × Instr × Nat × Nat × Value
abbrev gB (G : xG) : Nat := G.1
abbrev gb (G : xG) : Nat := G.2.1
abbrev gL (G : xG) : Nat := G.2.2.1
abbrev gx (G : xG) : Nat → Int32 := G.2.2.2.1
abbrev gh (G : xG) : Nat := G.2.2.2.2.1
abbrev gD (G : xG) : va_G := G.2.2.2.2.2.1
abbrev gI (G : xG) : ClassId := G.2.2.2.2.2.2.1
abbrev gJ (G : xG) : ClassId := G.2.2.2.2.2.2.2.1
abbrev gZ (G : xG) : ClassId := G.2.2.2.2.2.2.2.2
abbrev yR (Y : xMD) : Room := Y.2.2.2.2
abbrev yL (Y : xMD) : Nat := Y.2.2.1
abbrev yB (Y : xMD) : ByteArray := Y.2.1
abbrev yT (Y : xMD) : Option FieldType := Y.2.2.2.1
def xnth {α : Type} : List α → Nat → α → α
  | [], _, d => d
  | a :: _, 0, _ => a
  | _ :: l, n + 1, d => xnth l n d
def xkd (k : Nat) : Nat := (xnth xshp k (99, 0, [])).1
def xtl (k : Nat) : Nat := (xnth xshp k (99, 0, [])).2.1
def xrf (k : Nat) : List (Option Nat) := (xnth xshp k (99, 0, [])).2.2
def xln (G : xG) (k : Nat) : Nat := match Nat.beq k 96 with
  | true => gL G
  | false => xtl k
def xad (G : xG) (k : Nat) : Nat := if k = 96 then gb G else if k = 97 then gh G else gB G + k
def xcv (G : xG) : Value → Value
  | .ref k => .ref (xad G k)
  | v => v
def xgn : xGh → Nat
  | none => 96
  | some q => q.1
def xin : List (Nat × Nat) → Nat → Nat → Bool
  | [], _, _ => false
  | q :: l, k, j => (Nat.beq q.1 k && Nat.beq q.2 j) || xin l k j
def xis : xGh → Nat → Nat → Bool
  | none, _, _ => true
  | some q, k, j => xin q.2 k j
def xfv (G : xG) (M : xMe) (g : xGh) (k j : Nat) : Value := match xnth (xrf k) j none with
  | none => .int (M.1 k j)
  | some t => if xis g k j = true then .ref (gB G + t) else .null
def xent (G : xG) (M : xMe) (g : xGh) (k : Nat) : va_E := match xkd k with
  | 0 => .inl (gI G, xtl k, .inl (M.1 k))
  | 1 => .inl (gJ G, xtl k, .inr (.inl (M.2 k)))
  | 2 => .inl (gZ G, xtl k, .inl (M.1 k))
  | n + 3 => .inr (n, (List.range (xtl k)).map (xfv G M g k))
def xwl (G : xG) (M : xMe) (g : xGh) : va_W := (List.range (xgn g)).map (fun k => (gB G + k, xent G M g k))
def xsI (M : xMe) (k : Nat) (f : Nat → Int32) : xMe := (fun j => if j = k then f else M.1 j, M.2)
def xsL (M : xMe) (k : Nat) (f : Nat → Int64) : xMe := (M.1, fun j => if j = k then f else M.2 j)
def xA (G : xG) : Nat → Prop := fun q => gB G ≤ q
theorem xwl_get {G : xG} {M : xMe} {g : xGh} {k : Nat} (h : k < xgn g) : (xwl G M g)[k]? = some (gB G + k, xent G M g k) := by
  simp [xwl, h]
theorem xwl_len {G : xG} {M : xMe} {g : xGh} : (xwl G M g).length = xgn g := by simp [xwl]
theorem xwl_at {G : xG} {M : xMe} {g : xGh} {k : Nat} {q : Nat × va_E} (h : (xwl G M g)[k]? = some q) : k < xgn g ∧ q = (gB G + k, xent G M g k) := by
  have hl : k < (xwl G M g).length := (List.getElem?_eq_some_iff.mp h).1
  rw [xwl_len] at hl
  exact ⟨hl, Option.some.inj (h.symm.trans (xwl_get hl))⟩
theorem xwl_D {G : xG} {M : xMe} {g : xGh} : va_D (xA G) (xwl G M g) := by
  refine ⟨fun i j p q hi hj hpq => ?_, fun k q hk => ?_⟩
  · obtain ⟨-, rfl⟩ := xwl_at hi
    obtain ⟨-, rfl⟩ := xwl_at hj
    exact Nat.add_left_cancel hpq
  · obtain ⟨-, rfl⟩ := xwl_at hk
    exact Nat.le_add_right _ _
theorem xwl_set {G : xG} {M M' : xMe} {g g' : xGh} {k : Nat} {a : Nat} {e : va_E} (hg : xgn g' = xgn g) (ha : a = gB G + k) (he : e = xent G M' g' k) (ho : ∀ j, j ≠ k → xent G M' g' j = xent G M g j) : (xwl G M g).set k (a, e) = xwl G M' g' := by
  subst ha; subst he
  apply List.ext_getElem?
  intro i
  by_cases hi : i < xgn g
  · by_cases hk : i = k
    · subst hk
      rw [List.getElem?_set_self (by rw [xwl_len]; exact hi), xwl_get (by rw [hg]; exact hi)]
    · rw [List.getElem?_set_ne (Ne.symm hk), xwl_get hi, xwl_get (by rw [hg]; exact hi), ho i hk]
  · rw [List.getElem?_eq_none (by rw [List.length_set, xwl_len]; omega), List.getElem?_eq_none (by rw [xwl_len, hg]; omega)]
theorem xent_sI {G : xG} {M : xMe} {g : xGh} {k : Nat} {f : Nat → Int32} {j : Nat} (h : j ≠ k) : xent G (xsI M k f) g j = xent G M g j := by
  have e1 : (xsI M k f).1 j = M.1 j := by simp [xsI, h]
  have e2 : (xsI M k f).2 = M.2 := rfl
  have e3 : xfv G (xsI M k f) g j = xfv G M g j := by funext i; simp only [xfv, e1]
  unfold xent
  rw [e1, e2, e3]
theorem xent_sL {G : xG} {M : xMe} {g : xGh} {k : Nat} {f : Nat → Int64} {j : Nat} (h : j ≠ k) : xent G (xsL M k f) g j = xent G M g j := by
  have e1 : (xsL M k f).2 j = M.2 j := by simp [xsL, h]
  have e2 : (xsL M k f).1 = M.1 := rfl
  have e3 : xfv G (xsL M k f) g j = xfv G M g j := by funext i; simp only [xfv, e2]
  unfold xent
  rw [e1, e2, e3]
theorem xad_lt {G : xG} {k : Nat} (h : k < 96) : xad G k = gB G + k := by
  unfold xad
  rw [if_neg (by omega), if_neg (by omega)]
theorem xent_i {G : xG} {M : xMe} {g : xGh} {k : Nat} (h : xkd k = 0) : xent G M g k = .inl (gI G, xtl k, .inl (M.1 k)) := by unfold xent; rw [h]
theorem xent_l {G : xG} {M : xMe} {g : xGh} {k : Nat} (h : xkd k = 1) : xent G M g k = .inl (gJ G, xtl k, .inr (.inl (M.2 k))) := by unfold xent; rw [h]
theorem xent_z {G : xG} {M : xMe} {g : xGh} {k : Nat} (h : xkd k = 2) : xent G M g k = .inl (gZ G, xtl k, .inl (M.1 k)) := by unfold xent; rw [h]
theorem xent_o {G : xG} {M : xMe} {g : xGh} {k n : Nat} (h : xkd k = n + 3) : xent G M g k = .inr (n, (List.range (xtl k)).map (xfv G M g k)) := by unfold xent; rw [h]
theorem xsI_s {M : xMe} {k : Nat} {f : Nat → Int32} : (xsI M k f).1 k = f := by simp [xsI]
theorem xsL_s {M : xMe} {k : Nat} {f : Nat → Int64} : (xsL M k f).2 k = f := by simp [xsL]
/-- what the real heap is to the small memory -/
def xRp (G : xG) (M : xMe) (g : xGh) (U : State) (H : Heap) : Prop :=
  va_K (gD G) xcls [(gI G, .int), (gJ G, .long), (gZ G, .boolean)] U ∧ va_P (gD G) xcls (xwl G M g) H ∧ va_X (gb G) (gL G) (gx G) U H ∧ gb G < gB G ∧ va_Z "DataShrinker$OctetSet" "HAVING" "[J" (.ref (gh G)) (xA G) U H ∧ va_T .long (gh G) 6 (fun j => .long (xhv j)) (xA G) U H
theorem xRp.moved {G : xG} {M : xMe} {g : xGh} {u U : State} {H : Heap} (hvm : u.vm.Alike U.vm) (h : xRp G M g u H) : xRp G M g U H := by
  obtain ⟨h1, h2, h4, h5, h6, h7⟩ := h
  exact ⟨va_K.moved hvm h1, h2, va_X.moved hvm h4, h5, va_Z.moved hvm h6, va_T.moved hvm h7⟩
/-- a store into the world: the rest of what is known stays -/
theorem xRp.upd {G : xG} {M M' : xMe} {g g' : xGh} {s : State} {H H1 : Heap} (h : xRp G M g s H) (hP : va_P (gD G) xcls (xwl G M' g') H1) (ho : ∀ q : Nat, q < H.size → ¬ xA G q → H1[q]? = H[q]?) : xRp G M' g' s H1 := by
  obtain ⟨h1, h2, h4, h5, h6, h7⟩ := h
  have hb : gb G < H.size := by
    obtain ⟨scr, hs, -⟩ := h4
    exact (Array.getElem?_eq_some_iff.mp hs).1
  exact ⟨h1, hP, h4.kept (ho _ hb (Nat.not_le.mpr h5)), h5, h6.kept ho, h7.kept ho⟩
/-- while the world is being made: how many cells there are -/
def xSz (G : xG) (g : xGh) (n : Nat) : Prop := match g with
  | none => True
  | some q => n = gB G + q.1
def xQc (G : xG) (Q : Option Value → xMe → xGh → Prop) : Array Value → State → Outcome → State → Prop := fun _ st o t => (∃ (r : Option Value) (M : xMe) (g : xGh), o = .returned (r.map (xcv G)) ∧ Q r M g ∧ xRp G M g t t.heap) ∧ va_F (xA G) st t
def xCx (G : xG) (Y : xMD) (p : Program) (s : State) (m : MethodId) (args : Array Value) (meth : Method) (c : Code) : Prop :=
  p.tables.exec = Jvm.exec ∧ c.code = yB Y ∧ meth.sig.returnType = yT Y ∧ c.maxLocals = yL Y ∧ s.vm.findClass Y.1.cls = some m.cls ∧ (∀ w ∈ xtb, w.before args s = true) ∧ meth.locks = false ∧ meth.name = Y.1.name ∧ gB G ≤ s.heap.size ∧ xNst s
def xlg : xLv → Nat → Option Value
  | [], _ => none
  | a :: _, 0 => a
  | _ :: l, n + 1 => xlg l n
def xLs (G : xG) (ls : Array Slot) (nL : Nat) (lv : xLv) : Prop := ls.size = nL ∧ lv_wf ls ∧ ∀ (i : Nat) (v : Value), xlg lv i = some v → ls[i]? = some (.val (xcv G v))
/-- from this frame on, the method comes to its end with Q -/
def xC (l : Launch) (G : xG) (Y : xMD) (pc : Nat) (lv : xLv) (st : List Value) (M : xMe) (g : xGh) (cn sn : Nat) (Q : Option Value → xMe → xGh → Prop) : Prop :=
  ∀ (p : Program) (e : Env) (s : State) (m : MethodId) (args : Array Value) (below : List Frame) (meth : Method) (c : Code), xCx G Y p s m args meth c → xSz G g (s.heap.size + cn) →
    ∀ (H : Heap) (locs : List Loc) (ls : Array Slot), xRp G M g s H → va_S (xA G) s.heap H locs → xLs G ls (yL Y) lv →
      W p l e (yR Y) s m args below meth c H locs cn sn (MQ below (xQc G Q) args s (yR Y).cells (yR Y).slots (xA G)) (F0 m pc ls (st.map (xcv G)))
def xPr (G : xG) (M : xMe) (g : xGh) (U : State) : Prop := xRp G M g U U.heap ∧ gB G ≤ U.heap.size ∧ xSz G g U.heap.size ∧ xNst U
def xws (Y : xMD) : List Cond := .code Y.1 (yB Y) (yL Y) (yT Y) :: xtb
/-- a method's contract: from these arguments and this memory it returns, with Q -/
def xT (l : Launch) (G : xG) (Y : xMD) (a : List Value) (M : xMe) (g : xGh) (Q : Option Value → xMe → xGh → Prop) : Prop :=
  Met l Y.1 (xws Y) (yR Y) (va_Pc (a.map (xcv G)) (xPr G M g)) (xQc G Q) (yR Y).cells (yR Y).slots (xA G)
def xarg : List Value → xLv
  | [] => []
  | v :: l => match v.category with
    | 2 => some v :: none :: xarg l
    | _ => some v :: xarg l
theorem xcv_cat {G : xG} (v : Value) : (xcv G v).category = v.category := by cases v <;> rfl
theorem xarg_get {G : xG} : ∀ (a : List Value) (n : Nat) (i : Nat) (v : Value), xlg (xarg a) i = some v → (i + n, xcv G v) ∈ lv_args n (a.map (xcv G))
  | [], n, i, v, h => by simp [xarg, xlg] at h
  | w :: a, n, i, v, h => by
    have hc := xcv_cat (G := G) w
    rw [List.map_cons, lv_args]
    unfold xarg at h
    rcases lv_cat w with q | q
    · rw [q] at h hc
      cases i with
      | zero =>
        simp only [xlg] at h
        cases h
        simp
      | succ i =>
        simp only [xlg] at h
        have := xarg_get (G := G) a (n + 1) i v h
        simp [hc]
        rw [show i + 1 + n = i + (n + 1) by omega]
        exact this
    · rw [q] at h hc
      match i, h with
      | 0, h =>
        simp only [xlg] at h
        cases h
        simp
      | 1, h => simp [xlg] at h
      | i + 2, h =>
        simp only [xlg] at h
        have := xarg_get (G := G) a (n + 2) i v h
        simp [hc]
        rw [show i + 2 + n = i + (n + 2) by omega]
        exact this
end
section
/-! One step of the small machine as what must hold before it; many steps; they are sound over the real one -/
def xkl : Option Value → Option Value
  | some v => match v.category with
    | 2 => none
    | _ => some v
  | none => none
def xs1 : xLv → Nat → Value → xLv
  | [], _, _ => []
  | _ :: l, 0, v => some v :: l
  | a :: l, n + 1, v => (match n with | 0 => xkl a | _ + 1 => a) :: xs1 l n v
def xhd : xLv → xLv
  | [] => []
  | _ :: l => none :: l
def xs2 : xLv → Nat → Value → xLv
  | [], _, _ => []
  | _ :: l, 0, v => some v :: xhd l
  | a :: l, n + 1, v => (match n with | 0 => xkl a | _ + 1 => a) :: xs2 l n v
/-- the same with the rest of the run behind it, so that lists come out written -/
def xkk : Option Value → Nat → (Option Value → Prop) → Prop
  | some v, 0, k => (match v.category with | 2 => k none | _ => k (some v))
  | none, 0, k => k none
  | a, _ + 1, k => k a
def xp1 : xLv → Nat → Value → (xLv → Prop) → Prop
  | [], _, _, k => k []
  | _ :: l, 0, v, k => k (some v :: l)
  | a :: l, n + 1, v, k => xkk a n (fun a' => xp1 l n v (fun l' => k (a' :: l')))
def xq2 : xLv → Value → (xLv → Prop) → Prop
  | [], v, k => k [some v]
  | _ :: l, v, k => k (some v :: none :: l)
def xp2 : xLv → Nat → Value → (xLv → Prop) → Prop
  | [], _, _, k => k []
  | _ :: l, 0, v, k => xq2 l v k
  | a :: l, n + 1, v, k => xkk a n (fun a' => xp2 l n v (fun l' => k (a' :: l')))
theorem xkk_eq (a : Option Value) (n : Nat) (k : Option Value → Prop) : xkk a n k ↔ k (match n with | 0 => xkl a | _ + 1 => a) := by
  cases n with
  | zero =>
    cases a with
    | none => exact Iff.rfl
    | some v =>
      unfold xkk xkl
      rcases lv_cat v with q | q <;> simp only [q]
  | succ n => cases a <;> exact Iff.rfl
theorem xp1_eq : ∀ (lv : xLv) (i : Nat) (v : Value) (k : xLv → Prop), xp1 lv i v k ↔ k (xs1 lv i v)
  | [], _, _, _ => Iff.rfl
  | _ :: _, 0, _, _ => Iff.rfl
  | a :: l, n + 1, v, k => by
    unfold xp1 xs1
    rw [xkk_eq]
    exact xp1_eq l n v _
theorem xp2_eq : ∀ (lv : xLv) (i : Nat) (v : Value) (k : xLv → Prop), xp2 lv i v k ↔ k (xs2 lv i v)
  | [], _, _, _ => Iff.rfl
  | [_], 0, _, _ => Iff.rfl
  | _ :: _ :: _, 0, _, _ => Iff.rfl
  | a :: l, n + 1, v, k => by
    unfold xp2 xs2
    rw [xkk_eq]
    exact xp2_eq l n v _
/-- the kit's list of what the variables hold -/
def xas (G : xG) : Nat → xLv → List (Nat × Value)
  | _, [] => []
  | i, none :: l => xas G (i + 1) l
  | i, some v :: l => (i, xcv G v) :: xas G (i + 1) l
theorem xas_in {G : xG} : ∀ (lv : xLv) (i : Nat) (q : Nat × Value), q ∈ xas G i lv → ∃ (j : Nat) (v : Value), q = (i + j, xcv G v) ∧ xlg lv j = some v
  | [], i, q, h => by simp [xas] at h
  | none :: l, i, q, h => by
    obtain ⟨j, v, h1, h2⟩ := xas_in l (i + 1) q h
    exact ⟨j + 1, v, by rw [h1]; congr 1; omega, h2⟩
  | some w :: l, i, q, h => by
    rcases List.mem_cons.mp h with h | h
    · exact ⟨0, w, h, rfl⟩
    · obtain ⟨j, v, h1, h2⟩ := xas_in l (i + 1) q h
      exact ⟨j + 1, v, by rw [h1]; congr 1; omega, h2⟩
theorem xin_as {G : xG} : ∀ (lv : xLv) (i j : Nat) (v : Value), xlg lv j = some v → (i + j, xcv G v) ∈ xas G i lv
  | [], i, j, v, h => by simp [xlg] at h
  | none :: l, i, 0, v, h => by simp [xlg] at h
  | none :: l, i, j + 1, v, h => by
    have := xin_as (G := G) l (i + 1) j v h
    rw [show i + 1 + j = i + (j + 1) by omega] at this
    exact this
  | some w :: l, i, 0, v, h => by
    simp only [xlg] at h
    cases h
    exact List.mem_cons_self
  | some w :: l, i, j + 1, v, h => by
    have := xin_as (G := G) l (i + 1) j v h
    rw [show i + 1 + j = i + (j + 1) by omega] at this
    exact List.mem_cons_of_mem _ this
theorem xLs.has {G : xG} {ls : Array Slot} {nL : Nat} {lv : xLv} (h : xLs G ls nL lv) : lv_has ls nL (xas G 0 lv) := by
  refine ⟨h.1, h.2.1, fun q hq => ?_⟩
  obtain ⟨j, v, rfl, hv⟩ := xas_in lv 0 q hq
  rw [Nat.zero_add]
  exact h.2.2 j v hv
theorem xlg_s1 : ∀ (lv : xLv) (i : Nat) (v : Value) (j : Nat) (w : Value), xlg (xs1 lv i v) j = some w → (j = i ∧ w = v) ∨ (j ≠ i ∧ ¬ (j + 1 = i ∧ w.category = 2) ∧ xlg lv j = some w)
  | [], _, _, _, _, h => by simp [xs1, xlg] at h
  | a :: l, 0, v, 0, w, h => by
    simp only [xs1, xlg] at h
    cases h
    exact Or.inl ⟨rfl, rfl⟩
  | a :: l, 0, v, j + 1, w, h => Or.inr ⟨by omega, fun q => by omega, h⟩
  | a :: l, n + 1, v, 0, w, h => by
    refine Or.inr ⟨by omega, fun q => ?_, ?_⟩
    · have hn : n = 0 := by omega
      subst hn
      simp only [xs1, xlg] at h
      cases a with
      | none => simp [xkl] at h
      | some u =>
        unfold xkl at h
        rcases lv_cat u with z | z
        · simp only [z] at h
          cases h
          omega
        · simp only [z] at h
          cases h
    · cases n with
      | zero =>
        simp only [xs1, xlg] at h ⊢
        cases a with
        | none => simp [xkl] at h
        | some u =>
          unfold xkl at h
          rcases lv_cat u with z | z
          · simp only [z] at h
            exact h
          · simp only [z] at h
            cases h
      | succ n => exact h
  | a :: l, n + 1, v, j + 1, w, h => by
    rcases xlg_s1 l n v j w h with ⟨h1, h2⟩ | ⟨h1, h2, h3⟩
    · exact Or.inl ⟨by omega, h2⟩
    · exact Or.inr ⟨by omega, fun q => h2 ⟨by omega, q.2⟩, h3⟩
theorem xlg_s2 : ∀ (lv : xLv) (i : Nat) (v : Value) (j : Nat) (w : Value), xlg (xs2 lv i v) j = some w → (j = i ∧ w = v) ∨ (j ≠ i ∧ j ≠ i + 1 ∧ ¬ (j + 1 = i ∧ w.category = 2) ∧ xlg lv j = some w)
  | [], _, _, _, _, h => by simp [xs2, xlg] at h
  | a :: l, 0, v, 0, w, h => by
    simp only [xs2, xlg] at h
    cases h
    exact Or.inl ⟨rfl, rfl⟩
  | [a], 0, v, j + 1, w, h => by simp [xs2, xhd, xlg] at h
  | a :: b :: l, 0, v, 1, w, h => by simp [xs2, xhd, xlg] at h
  | a :: b :: l, 0, v, j + 2, w, h => Or.inr ⟨by omega, by omega, fun q => by omega, h⟩
  | a :: l, n + 1, v, 0, w, h => by
    refine Or.inr ⟨by omega, by omega, fun q => ?_, ?_⟩
    · have hn : n = 0 := by omega
      subst hn
      simp only [xs2, xlg] at h
      cases a with
      | none => simp [xkl] at h
      | some u =>
        unfold xkl at h
        rcases lv_cat u with z | z
        · simp only [z] at h
          cases h
          omega
        · simp only [z] at h
          cases h
    · cases n with
      | zero =>
        simp only [xs2, xlg] at h ⊢
        cases a with
        | none => simp [xkl] at h
        | some u =>
          unfold xkl at h
          rcases lv_cat u with z | z
          · simp only [z] at h
            exact h
          · simp only [z] at h
            cases h
      | succ n => exact h
  | a :: l, n + 1, v, j + 1, w, h => by
    rcases xlg_s2 l n v j w h with ⟨h1, h2⟩ | ⟨h1, h2, h3, h4⟩
    · exact Or.inl ⟨by omega, h2⟩
    · exact Or.inr ⟨by omega, by omega, fun q => h3 ⟨by omega, q.2⟩, h4⟩
theorem xLs.put1 {G : xG} {ls : Array Slot} {nL : Nat} {lv : xLv} {i : Nat} {v : Value} (h : lv_has ls nL ((i, xcv G v) :: (xas G 0 lv).filter (fun q => !(q.1 == i) && !(q.1 + 1 == i && q.2.category == 2)))) : xLs G ls nL (xs1 lv i v) := by
  refine ⟨h.1, h.2.1, fun j w hj => ?_⟩
  rcases xlg_s1 lv i v j w hj with ⟨rfl, rfl⟩ | ⟨h1, h2, h3⟩
  · exact h.2.2 _ List.mem_cons_self
  · have hm := xin_as (G := G) lv 0 j w h3
    rw [Nat.zero_add] at hm
    refine h.2.2 (j, xcv G w) (List.mem_cons_of_mem _ (List.mem_filter.mpr ⟨hm, ?_⟩))
    simp only [xcv_cat]
    simp
    exact ⟨h1, by omega⟩
theorem xLs.put2 {G : xG} {ls : Array Slot} {nL : Nat} {lv : xLv} {i : Nat} {v : Value} (h : lv_has ls nL ((i, xcv G v) :: (xas G 0 lv).filter (fun q => !(q.1 == i) && (!(q.1 == i + 1) && !(q.1 + 1 == i && q.2.category == 2))))) : xLs G ls nL (xs2 lv i v) := by
  refine ⟨h.1, h.2.1, fun j w hj => ?_⟩
  rcases xlg_s2 lv i v j w hj with ⟨rfl, rfl⟩ | ⟨h1, h1', h2, h3⟩
  · exact h.2.2 _ List.mem_cons_self
  · have hm := xin_as (G := G) lv 0 j w h3
    rw [Nat.zero_add] at hm
    refine h.2.2 (j, xcv G w) (List.mem_cons_of_mem _ (List.mem_filter.mpr ⟨hm, ?_⟩))
    simp only [xcv_cat]
    simp
    exact ⟨h1, h1', by omega⟩
theorem xlg_lt {G : xG} {ls : Array Slot} {nL : Nat} {lv : xLv} (h : xLs G ls nL lv) {i : Nat} {v : Value} (hi : xlg lv i = some v) : i < nL := by
  have := lv_lt (h.2.2 i v hi)
  rw [h.1] at this
  exact this
def xjmp : List xRw → Nat → List xRw
  | [], _ => []
  | r :: rs, t => match Nat.beq r.1 t with
    | true => r :: rs
    | false => xjmp rs t
/-- the cases of a switch, one behind the other -/
def xsw (x : Int32) (k : Int → Prop) (d : Int) : List (Int × Int) → Prop
  | [] => k d
  | q :: l => (x = Int32.ofInt q.1 → k q.2) ∧ (¬ x = Int32.ofInt q.1 → xsw x k d l)
def xtab : Int → List Int → List (Int × Int)
  | _, [] => []
  | i, o :: l => (i, o) :: xtab (i + 1) l
def xstp (G : xG) (all : List xRw) (pc : Nat) (ins : Instr) (a1 a2 : Nat) (v : Value) (nL : Nat) (rs : List xRw) (lv : xLv) (st : List Value) (M : xMe) (K : List xRw → xLv → List Value → xMe → Prop) : Prop :=
  match ins with
  | .iconst _ | .bipush _ | .sipush _ | .lconst _ | .ldc _ | .ldc_w _ | .ldc2_w _ => K rs lv (v :: st) M
  | .iload _ | .iload_n _ => (match xlg lv a1 with | some (.int x) => K rs lv (.int x :: st) M | _ => False)
  | .lload _ | .lload_n _ => (match xlg lv a1 with | some (.long x) => K rs lv (.long x :: st) M | _ => False)
  | .aload _ | .aload_n _ => (match xlg lv a1 with | some (.ref x) => K rs lv (.ref x :: st) M | _ => False)
  | .istore _ | .istore_n _ => (match Nat.blt a1 nL, st with | true, .int x :: r => xp1 lv a1 (.int x) (fun lv' => K rs lv' r M) | _, _ => False)
  | .lstore _ | .lstore_n _ => (match Nat.blt (a1 + 1) nL, st with | true, .long x :: r => xp2 lv a1 (.long x) (fun lv' => K rs lv' r M) | _, _ => False)
  | .astore _ | .astore_n _ => (match Nat.blt a1 nL, st with | true, .ref x :: r => xp1 lv a1 (.ref x) (fun lv' => K rs lv' r M) | _, _ => False)
  | .iinc _ _ => (match xlg lv a1, v with | some (.int x), .int c => xp1 lv a1 (.int (x + c)) (fun lv' => K rs lv' st M) | _, _ => False)
  | .iadd => (match st with | .int y :: .int x :: r => K rs lv (.int (x + y) :: r) M | _ => False)
  | .isub => (match st with | .int y :: .int x :: r => K rs lv (.int (x - y) :: r) M | _ => False)
  | .imul => (match st with | .int y :: .int x :: r => K rs lv (.int (x * y) :: r) M | _ => False)
  | .iand => (match st with | .int y :: .int x :: r => K rs lv (.int (x &&& y) :: r) M | _ => False)
  | .ior => (match st with | .int y :: .int x :: r => K rs lv (.int (x ||| y) :: r) M | _ => False)
  | .ixor => (match st with | .int y :: .int x :: r => K rs lv (.int (x ^^^ y) :: r) M | _ => False)
  | .idiv => (match st with | .int y :: .int x :: r => ¬ y = 0 ∧ K rs lv (.int (x / y) :: r) M | _ => False)
  | .irem => (match st with | .int y :: .int x :: r => ¬ y = 0 ∧ K rs lv (.int (x - x / y * y) :: r) M | _ => False)
  | .ineg => (match st with | .int x :: r => K rs lv (.int (-x) :: r) M | _ => False)
  | .ishl => (match st with | .int y :: .int x :: r => K rs lv (.int (x <<< (y &&& 31)) :: r) M | _ => False)
  | .ishr => (match st with | .int y :: .int x :: r => K rs lv (.int (x >>> (y &&& 31)) :: r) M | _ => False)
  | .iushr => (match st with | .int y :: .int x :: r => K rs lv (.int (x.toUInt32 >>> (y.toUInt32 &&& Int32.toUInt32 31)).toInt32 :: r) M | _ => False)
  | .ladd => (match st with | .long y :: .long x :: r => K rs lv (.long (x + y) :: r) M | _ => False)
  | .lsub => (match st with | .long y :: .long x :: r => K rs lv (.long (x - y) :: r) M | _ => False)
  | .land => (match st with | .long y :: .long x :: r => K rs lv (.long (x &&& y) :: r) M | _ => False)
  | .lor => (match st with | .long y :: .long x :: r => K rs lv (.long (x ||| y) :: r) M | _ => False)
  | .lxor => (match st with | .long y :: .long x :: r => K rs lv (.long (x ^^^ y) :: r) M | _ => False)
  | .lshl => (match st with | .int y :: .long x :: r => K rs lv (.long (x <<< (y.toInt64 &&& 63)) :: r) M | _ => False)
  | .lshr => (match st with | .int y :: .long x :: r => K rs lv (.long (x >>> (y.toInt64 &&& 63)) :: r) M | _ => False)
  | .lushr => (match st with | .int y :: .long x :: r => K rs lv (.long (x.toUInt64 >>> (y.toInt64.toUInt64 &&& Int64.toUInt64 63)).toInt64 :: r) M | _ => False)
  | .lcmp => (match st with | .long y :: .long x :: r => K rs lv (.int (lg_cmp x y) :: r) M | _ => False)
  | .i2l => (match st with | .int x :: r => K rs lv (.long x.toInt64 :: r) M | _ => False)
  | .l2i => (match st with | .long x :: r => K rs lv (.int x.toInt32 :: r) M | _ => False)
  | .dup => (match st with | .int x :: r => K rs lv (.int x :: .int x :: r) M | .ref x :: r => K rs lv (.ref x :: .ref x :: r) M | _ => False)
  | .dup2 => (match st with | .int x :: .ref y :: r => K rs lv (.int x :: .ref y :: .int x :: .ref y :: r) M | .long x :: r => K rs lv (.long x :: .long x :: r) M | _ => False)
  | .pop => (match st with | .int _ :: r => K rs lv r M | _ => False)
  | .ifCond c _ => (match st with
    | .int x :: r => (match c with
      | .eq => (x = 0 → K (xjmp all a1) lv r M) ∧ (¬ x = 0 → K rs lv r M)
      | .ne => (¬ x = 0 → K (xjmp all a1) lv r M) ∧ (x = 0 → K rs lv r M)
      | .lt => (x < 0 → K (xjmp all a1) lv r M) ∧ (¬ x < 0 → K rs lv r M)
      | .ge => (¬ x < 0 → K (xjmp all a1) lv r M) ∧ (x < 0 → K rs lv r M)
      | .gt => (0 < x → K (xjmp all a1) lv r M) ∧ (¬ 0 < x → K rs lv r M)
      | .le => (¬ 0 < x → K (xjmp all a1) lv r M) ∧ (0 < x → K rs lv r M))
    | _ => False)
  | .if_icmp c _ => (match st with
    | .int y :: .int x :: r => (match c with
      | .eq => (x = y → K (xjmp all a1) lv r M) ∧ (¬ x = y → K rs lv r M)
      | .ne => (¬ x = y → K (xjmp all a1) lv r M) ∧ (x = y → K rs lv r M)
      | .lt => (x < y → K (xjmp all a1) lv r M) ∧ (¬ x < y → K rs lv r M)
      | .ge => (¬ x < y → K (xjmp all a1) lv r M) ∧ (x < y → K rs lv r M)
      | .gt => (y < x → K (xjmp all a1) lv r M) ∧ (¬ y < x → K rs lv r M)
      | .le => (¬ y < x → K (xjmp all a1) lv r M) ∧ (y < x → K rs lv r M))
    | _ => False)
  | .goto _ => K (xjmp all a1) lv st M
  | .tableswitch d lo _ offs => (match st with | .int x :: r => xsw x (fun o => K (xjmp all ((pc : Int) + o).toNat) lv r M) d (xtab lo offs.toList) | _ => False)
  | .lookupswitch d ps => (match st with | .int x :: r => xsw x (fun o => K (xjmp all ((pc : Int) + o).toNat) lv r M) d ps.toList | _ => False)
  | .getfield _ => (match st with
    | .ref k :: r => (match Nat.beq (xkd k) (a2 + 3), xnth (xrf k) a1 none with
      | true, none => K rs lv (.int (M.1 k a1) :: r) M
      | true, some t => K rs lv (.ref t :: r) M
      | _, _ => False)
    | _ => False)
  | .putfield _ => (match st with
    | .int x :: .ref k :: r => (match Nat.beq (xkd k) (a2 + 3), xnth (xrf k) a1 none, v with
      | true, none, .int _ => K rs lv r (xsI M k (upd (M.1 k) a1 x))
      | true, none, .long _ => (x = 0 ∨ x = 1) ∧ K rs lv r (xsI M k (upd (M.1 k) a1 x))
      | _, _, _ => False)
    | _ => False)
  | .getstatic _ => K rs lv (.ref 97 :: st) M
  | .arraylength => (match st with | .ref k :: r => (match Nat.blt (xkd k) 3 with | true => K rs lv (.int (Int32.ofNat (xln G k)) :: r) M | false => False) | _ => False)
  | .iaload => (match st with
    | .int i :: .ref k :: r => (match Nat.beq (xkd k) 0, Nat.beq k 96 with
      | true, true => vp_in i (gL G) ∧ K rs lv (.int (gx G i.toNatClampNeg) :: r) M
      | true, false => vp_in i (xtl k) ∧ K rs lv (.int (M.1 k i.toNatClampNeg) :: r) M
      | _, _ => False)
    | _ => False)
  | .laload => (match st with
    | .int i :: .ref k :: r => (match Nat.beq (xkd k) 1, Nat.beq k 97 with
      | true, true => vp_in i 6 ∧ K rs lv (.long (xhv i.toNatClampNeg) :: r) M
      | true, false => vp_in i (xtl k) ∧ K rs lv (.long (M.2 k i.toNatClampNeg) :: r) M
      | _, _ => False)
    | _ => False)
  | .baload => (match st with
    | .int i :: .ref k :: r => (match Nat.beq (xkd k) 2 with
      | true => vp_in i (xtl k) ∧ K rs lv (.int (M.1 k i.toNatClampNeg) :: r) M
      | false => False)
    | _ => False)
  | .iastore => (match st with
    | .int x :: .int i :: .ref k :: r => (match Nat.beq (xkd k) 0, Nat.blt k 96 with
      | true, true => vp_in i (xtl k) ∧ K rs lv r (xsI M k (upd (M.1 k) i.toNatClampNeg x))
      | _, _ => False)
    | _ => False)
  | .lastore => (match st with
    | .long x :: .int i :: .ref k :: r => (match Nat.beq (xkd k) 1, Nat.blt k 96 with
      | true, true => vp_in i (xtl k) ∧ K rs lv r (xsL M k (vp_updL (M.2 k) i.toNatClampNeg x))
      | _, _ => False)
    | _ => False)
  | .bastore => (match st with
    | .int x :: .int i :: .ref k :: r => (match Nat.beq (xkd k) 2, Nat.blt k 96 with
      | true, true => vp_in i (xtl k) ∧ (x = 0 ∨ x = 1) ∧ K rs lv r (xsI M k (upd (M.1 k) i.toNatClampNeg x))
      | _, _ => False)
    | _ => False)
  | _ => False
def xcr : Instr → Bool
  | .invokevirtual _ => true
  | .invokestatic _ => true
  | .invokespecial _ => true
  | .ireturn => true
  | .lreturn => true
  | .return_ => true
  | _ => false
def xmb : List Nat → Nat → Bool
  | [], _ => false
  | a :: l, k => match Nat.beq a k with
    | true => true
    | false => xmb l k
/-- many steps: up to a call, a return, or a place of 'stops' -/
def xwp (G : xG) (nL : Nat) (all : List xRw) (stops : List Nat) : Nat → List xRw → xLv → List Value → xMe → (Nat → xLv → List Value → xMe → Prop) → Prop
  | 0, r :: _ :: _, lv, st, M, K => K r.1 lv st M
  | n + 1, (pc, ins, a1, a2, v) :: r2 :: rs, lv, st, M, K => match xcr ins with
    | true => K pc lv st M
    | false => xstp G all pc ins a1 a2 v nL (r2 :: rs) lv st M (fun rs' lv' st' M' => match rs' with
      | [] => False
      | (pc', q) :: rs'' => (match xmb stops pc' with
        | true => K pc' lv' st' M'
        | false => xwp G nL all stops n ((pc', q) :: rs'') lv' st' M' K))
  | _, _, _, _, _, _ => False
end
section
/-! A row for each instruction: the kit's rows over the small machine -/
section XI
variable {l : Launch} {G : xG} {Y : xMD} {pc : Nat} {lv : xLv} {st r : List Value} {M : xMe} {g : xGh} {cn sn : Nat} {Q : Option Value → xMe → xGh → Prop}
theorem xc_iadd {x y : Int32} (hd : decode (yB Y) pc = .ok (.iadd, 1)) (h : xC l G Y (pc + 1) lv (.int (x + y) :: r) M g cn sn Q) : xC l G Y pc lv (.int y :: .int x :: r) M g cn sn Q := fun p e s m args below meth c hx hz H locs ls hR hS hl => lv_iadd hx.1 hx.2.1 hd (h p e s m args below meth c hx hz H locs ls hR hS hl)
theorem xc_isub {x y : Int32} (hd : decode (yB Y) pc = .ok (.isub, 1)) (h : xC l G Y (pc + 1) lv (.int (x - y) :: r) M g cn sn Q) : xC l G Y pc lv (.int y :: .int x :: r) M g cn sn Q := fun p e s m args below meth c hx hz H locs ls hR hS hl => lv_isub hx.1 hx.2.1 hd (h p e s m args below meth c hx hz H locs ls hR hS hl)
theorem xc_imul {x y : Int32} (hd : decode (yB Y) pc = .ok (.imul, 1)) (h : xC l G Y (pc + 1) lv (.int (x * y) :: r) M g cn sn Q) : xC l G Y pc lv (.int y :: .int x :: r) M g cn sn Q := fun p e s m args below meth c hx hz H locs ls hR hS hl => lv_imul hx.1 hx.2.1 hd (h p e s m args below meth c hx hz H locs ls hR hS hl)
theorem xc_iand {x y : Int32} (hd : decode (yB Y) pc = .ok (.iand, 1)) (h : xC l G Y (pc + 1) lv (.int (x &&& y) :: r) M g cn sn Q) : xC l G Y pc lv (.int y :: .int x :: r) M g cn sn Q := fun p e s m args below meth c hx hz H locs ls hR hS hl => lv_iand hx.1 hx.2.1 hd (h p e s m args below meth c hx hz H locs ls hR hS hl)
theorem xc_ior {x y : Int32} (hd : decode (yB Y) pc = .ok (.ior, 1)) (h : xC l G Y (pc + 1) lv (.int (x ||| y) :: r) M g cn sn Q) : xC l G Y pc lv (.int y :: .int x :: r) M g cn sn Q := fun p e s m args below meth c hx hz H locs ls hR hS hl => lv_ior hx.1 hx.2.1 hd (h p e s m args below meth c hx hz H locs ls hR hS hl)
theorem xc_ixor {x y : Int32} (hd : decode (yB Y) pc = .ok (.ixor, 1)) (h : xC l G Y (pc + 1) lv (.int (x ^^^ y) :: r) M g cn sn Q) : xC l G Y pc lv (.int y :: .int x :: r) M g cn sn Q := fun p e s m args below meth c hx hz H locs ls hR hS hl => lv_ixor hx.1 hx.2.1 hd (h p e s m args below meth c hx hz H locs ls hR hS hl)
theorem xc_ladd {x y : Int64} (hd : decode (yB Y) pc = .ok (.ladd, 1)) (h : xC l G Y (pc + 1) lv (.long (x + y) :: r) M g cn sn Q) : xC l G Y pc lv (.long y :: .long x :: r) M g cn sn Q := fun p e s m args below meth c hx hz H locs ls hR hS hl => lv_ladd hx.1 hx.2.1 hd (h p e s m args below meth c hx hz H locs ls hR hS hl)
theorem xc_lsub {x y : Int64} (hd : decode (yB Y) pc = .ok (.lsub, 1)) (h : xC l G Y (pc + 1) lv (.long (x - y) :: r) M g cn sn Q) : xC l G Y pc lv (.long y :: .long x :: r) M g cn sn Q := fun p e s m args below meth c hx hz H locs ls hR hS hl => lv_lsub hx.1 hx.2.1 hd (h p e s m args below meth c hx hz H locs ls hR hS hl)
theorem xc_land {x y : Int64} (hd : decode (yB Y) pc = .ok (.land, 1)) (h : xC l G Y (pc + 1) lv (.long (x &&& y) :: r) M g cn sn Q) : xC l G Y pc lv (.long y :: .long x :: r) M g cn sn Q := fun p e s m args below meth c hx hz H locs ls hR hS hl => lv_land hx.1 hx.2.1 hd (h p e s m args below meth c hx hz H locs ls hR hS hl)
theorem xc_lor {x y : Int64} (hd : decode (yB Y) pc = .ok (.lor, 1)) (h : xC l G Y (pc + 1) lv (.long (x ||| y) :: r) M g cn sn Q) : xC l G Y pc lv (.long y :: .long x :: r) M g cn sn Q := fun p e s m args below meth c hx hz H locs ls hR hS hl => lv_lor hx.1 hx.2.1 hd (h p e s m args below meth c hx hz H locs ls hR hS hl)
theorem xc_lxor {x y : Int64} (hd : decode (yB Y) pc = .ok (.lxor, 1)) (h : xC l G Y (pc + 1) lv (.long (x ^^^ y) :: r) M g cn sn Q) : xC l G Y pc lv (.long y :: .long x :: r) M g cn sn Q := fun p e s m args below meth c hx hz H locs ls hR hS hl => lv_lxor hx.1 hx.2.1 hd (h p e s m args below meth c hx hz H locs ls hR hS hl)
theorem xc_idiv {x y : Int32} (hne : ¬ y = 0) (hd : decode (yB Y) pc = .ok (.idiv, 1)) (h : xC l G Y (pc + 1) lv (.int (x / y) :: r) M g cn sn Q) : xC l G Y pc lv (.int y :: .int x :: r) M g cn sn Q := fun p e s m args below meth c hx hz H locs ls hR hS hl => lv_idiv hx.1 hx.2.1 hd hne (h p e s m args below meth c hx hz H locs ls hR hS hl)
theorem xc_irem {x y : Int32} (hne : ¬ y = 0) (hd : decode (yB Y) pc = .ok (.irem, 1)) (h : xC l G Y (pc + 1) lv (.int (x - x / y * y) :: r) M g cn sn Q) : xC l G Y pc lv (.int y :: .int x :: r) M g cn sn Q := fun p e s m args below meth c hx hz H locs ls hR hS hl => lv_irem hx.1 hx.2.1 hd hne (h p e s m args below meth c hx hz H locs ls hR hS hl)
theorem xc_ineg {x : Int32} (hd : decode (yB Y) pc = .ok (.ineg, 1)) (h : xC l G Y (pc + 1) lv (.int (-x) :: r) M g cn sn Q) : xC l G Y pc lv (.int x :: r) M g cn sn Q := fun p e s m args below meth c hx hz H locs ls hR hS hl => lv_ineg hx.1 hx.2.1 hd (h p e s m args below meth c hx hz H locs ls hR hS hl)
theorem xc_ishl {x y : Int32} (hd : decode (yB Y) pc = .ok (.ishl, 1)) (h : xC l G Y (pc + 1) lv (.int (x <<< (y &&& 31)) :: r) M g cn sn Q) : xC l G Y pc lv (.int y :: .int x :: r) M g cn sn Q := fun p e s m args below meth c hx hz H locs ls hR hS hl => lv_ishl hx.1 hx.2.1 hd (h p e s m args below meth c hx hz H locs ls hR hS hl)
theorem xc_ishr {x y : Int32} (hd : decode (yB Y) pc = .ok (.ishr, 1)) (h : xC l G Y (pc + 1) lv (.int (x >>> (y &&& 31)) :: r) M g cn sn Q) : xC l G Y pc lv (.int y :: .int x :: r) M g cn sn Q := fun p e s m args below meth c hx hz H locs ls hR hS hl => lv_ishr hx.1 hx.2.1 hd (h p e s m args below meth c hx hz H locs ls hR hS hl)
theorem xc_iushr {x y : Int32} (hd : decode (yB Y) pc = .ok (.iushr, 1)) (h : xC l G Y (pc + 1) lv (.int (x.toUInt32 >>> (y.toUInt32 &&& Int32.toUInt32 31)).toInt32 :: r) M g cn sn Q) : xC l G Y pc lv (.int y :: .int x :: r) M g cn sn Q := fun p e s m args below meth c hx hz H locs ls hR hS hl => lv_iushr hx.1 hx.2.1 hd rfl (h p e s m args below meth c hx hz H locs ls hR hS hl)
theorem xc_lshl {x : Int64} {y : Int32} (hd : decode (yB Y) pc = .ok (.lshl, 1)) (h : xC l G Y (pc + 1) lv (.long (x <<< (y.toInt64 &&& 63)) :: r) M g cn sn Q) : xC l G Y pc lv (.int y :: .long x :: r) M g cn sn Q := fun p e s m args below meth c hx hz H locs ls hR hS hl => lv_lshl hx.1 hx.2.1 hd rfl (h p e s m args below meth c hx hz H locs ls hR hS hl)
theorem xc_lshr {x : Int64} {y : Int32} (hd : decode (yB Y) pc = .ok (.lshr, 1)) (h : xC l G Y (pc + 1) lv (.long (x >>> (y.toInt64 &&& 63)) :: r) M g cn sn Q) : xC l G Y pc lv (.int y :: .long x :: r) M g cn sn Q := fun p e s m args below meth c hx hz H locs ls hR hS hl => lv_lshr hx.1 hx.2.1 hd rfl (h p e s m args below meth c hx hz H locs ls hR hS hl)
theorem xc_lushr {x : Int64} {y : Int32} (hd : decode (yB Y) pc = .ok (.lushr, 1)) (h : xC l G Y (pc + 1) lv (.long (x.toUInt64 >>> (y.toInt64.toUInt64 &&& Int64.toUInt64 63)).toInt64 :: r) M g cn sn Q) : xC l G Y pc lv (.int y :: .long x :: r) M g cn sn Q := fun p e s m args below meth c hx hz H locs ls hR hS hl => lv_lushr hx.1 hx.2.1 hd rfl (h p e s m args below meth c hx hz H locs ls hR hS hl)
theorem xc_lcmp {x y : Int64} (hd : decode (yB Y) pc = .ok (.lcmp, 1)) (h : xC l G Y (pc + 1) lv (.int (lg_cmp x y) :: r) M g cn sn Q) : xC l G Y pc lv (.long y :: .long x :: r) M g cn sn Q := fun p e s m args below meth c hx hz H locs ls hR hS hl => W.lcmp hx.1 hx.2.1 hd (h p e s m args below meth c hx hz H locs ls hR hS hl)
theorem xc_i2l {x : Int32} (hd : decode (yB Y) pc = .ok (.i2l, 1)) (h : xC l G Y (pc + 1) lv (.long x.toInt64 :: r) M g cn sn Q) : xC l G Y pc lv (.int x :: r) M g cn sn Q := fun p e s m args below meth c hx hz H locs ls hR hS hl => lv_i2l hx.1 hx.2.1 hd rfl (h p e s m args below meth c hx hz H locs ls hR hS hl)
theorem xc_l2i {x : Int64} (hd : decode (yB Y) pc = .ok (.l2i, 1)) (h : xC l G Y (pc + 1) lv (.int x.toInt32 :: r) M g cn sn Q) : xC l G Y pc lv (.long x :: r) M g cn sn Q := fun p e s m args below meth c hx hz H locs ls hR hS hl => lv_l2i hx.1 hx.2.1 hd rfl (h p e s m args below meth c hx hz H locs ls hR hS hl)
theorem xc_dup {v : Value} (hv : v.category = 1) (hd : decode (yB Y) pc = .ok (.dup, 1)) (h : xC l G Y (pc + 1) lv (v :: v :: r) M g cn sn Q) : xC l G Y pc lv (v :: r) M g cn sn Q := fun p e s m args below meth c hx hz H locs ls hR hS hl => lv_dup hx.1 hx.2.1 hd (by rw [xcv_cat]; exact hv) (h p e s m args below meth c hx hz H locs ls hR hS hl)
theorem xc_pop {v : Value} (hv : v.category = 1) (hd : decode (yB Y) pc = .ok (.pop, 1)) (h : xC l G Y (pc + 1) lv r M g cn sn Q) : xC l G Y pc lv (v :: r) M g cn sn Q := fun p e s m args below meth c hx hz H locs ls hR hS hl => lv_pop hx.1 hx.2.1 hd (by rw [xcv_cat]; exact hv) (h p e s m args below meth c hx hz H locs ls hR hS hl)
theorem xc_dup2a {v w : Value} (hv : v.category = 1) (hw : w.category = 1) (hd : decode (yB Y) pc = .ok (.dup2, 1)) (h : xC l G Y (pc + 1) lv (v :: w :: v :: w :: r) M g cn sn Q) : xC l G Y pc lv (v :: w :: r) M g cn sn Q := fun p e s m args below meth c hx hz H locs ls hR hS hl => lv_dup2_11 hx.1 hx.2.1 hd (by rw [xcv_cat]; exact hv) (by rw [xcv_cat]; exact hw) (h p e s m args below meth c hx hz H locs ls hR hS hl)
theorem xc_dup2b {v : Value} (hv : v.category = 2) (hd : decode (yB Y) pc = .ok (.dup2, 1)) (h : xC l G Y (pc + 1) lv (v :: v :: r) M g cn sn Q) : xC l G Y pc lv (v :: r) M g cn sn Q := fun p e s m args below meth c hx hz H locs ls hR hS hl => lv_dup2_2 hx.1 hx.2.1 hd (by rw [xcv_cat]; exact hv) (h p e s m args below meth c hx hz H locs ls hR hS hl)
theorem xc_iconst {n : Int} {c : Int32} (hc : Int32.ofInt n = c) (hd : decode (yB Y) pc = .ok (.iconst n, 1)) (h : xC l G Y (pc + 1) lv (.int c :: r) M g cn sn Q) : xC l G Y pc lv r M g cn sn Q := fun p e s m args below meth c hx hz H locs ls hR hS hl => lv_iconst hx.1 hx.2.1 hd hc (h p e s m args below meth c hx hz H locs ls hR hS hl)
theorem xc_bipush {n : Int} {c : Int32} (hc : (Int8.ofInt n).toInt32 = c) (hd : decode (yB Y) pc = .ok (.bipush n, 2)) (h : xC l G Y (pc + 2) lv (.int c :: r) M g cn sn Q) : xC l G Y pc lv r M g cn sn Q := fun p e s m args below meth c hx hz H locs ls hR hS hl => lv_bipush hx.1 hx.2.1 hd hc (h p e s m args below meth c hx hz H locs ls hR hS hl)
theorem xc_sipush {n : Int} {c : Int32} (hc : (Int16.ofInt n).toInt32 = c) (hd : decode (yB Y) pc = .ok (.sipush n, 3)) (h : xC l G Y (pc + 3) lv (.int c :: r) M g cn sn Q) : xC l G Y pc lv r M g cn sn Q := fun p e s m args below meth c hx hz H locs ls hR hS hl => lv_sipush hx.1 hx.2.1 hd hc (h p e s m args below meth c hx hz H locs ls hR hS hl)
theorem xc_lconst {n : Fin 2} {c : Int64} (hc : Int64.ofNat (n : Nat) = c) (hd : decode (yB Y) pc = .ok (.lconst n, 1)) (h : xC l G Y (pc + 1) lv (.long c :: r) M g cn sn Q) : xC l G Y pc lv r M g cn sn Q := fun p e s m args below meth c hx hz H locs ls hR hS hl => lv_lconst hx.1 hx.2.1 hd hc (h p e s m args below meth c hx hz H locs ls hR hS hl)
theorem xc_ldc {i : Nat} {c : Int32} (hc : Cond.constant Y.1.cls i c ∈ xtb) (hd : decode (yB Y) pc = .ok (.ldc i, 2)) (h : xC l G Y (pc + 2) lv (.int c :: r) M g cn sn Q) : xC l G Y pc lv r M g cn sn Q := fun p e s m args below meth c hx hz H locs ls hR hS hl => lv_ldc hx.1 hx.2.1 hx.2.2.2.2.1 (hx.2.2.2.2.2.1 _ hc) hd (h p e s m args below meth c hx hz H locs ls hR hS hl)
theorem xc_ldcw {i : Nat} {c : Int32} (hc : Cond.constant Y.1.cls i c ∈ xtb) (hd : decode (yB Y) pc = .ok (.ldc_w i, 3)) (h : xC l G Y (pc + 3) lv (.int c :: r) M g cn sn Q) : xC l G Y pc lv r M g cn sn Q := fun p e s m args below meth c hx hz H locs ls hR hS hl => lv_ldcw hx.1 hx.2.1 hx.2.2.2.2.1 (hx.2.2.2.2.2.1 _ hc) hd (h p e s m args below meth c hx hz H locs ls hR hS hl)
theorem xc_ldc2 {i : Nat} {c : Int64} (hc : Cond.constantLong Y.1.cls i c ∈ xtb) (hd : decode (yB Y) pc = .ok (.ldc2_w i, 3)) (h : xC l G Y (pc + 3) lv (.long c :: r) M g cn sn Q) : xC l G Y pc lv r M g cn sn Q := fun p e s m args below meth c hx hz H locs ls hR hS hl => lv_ldc2 hx.1 hx.2.1 hx.2.2.2.2.1 (hx.2.2.2.2.2.1 _ hc) hd (h p e s m args below meth c hx hz H locs ls hR hS hl)
theorem xc_iload {i : Nat} {x : Int32} (hi : xlg lv i = some (.int x)) (hd : decode (yB Y) pc = .ok (.iload i, 2)) (h : xC l G Y (pc + 2) lv (.int x :: r) M g cn sn Q) : xC l G Y pc lv r M g cn sn Q := fun p e s m args below meth c hx hz H locs ls hR hS hl => lv_iload hx.1 hx.2.1 hd (hl.2.2 _ _ hi) (h p e s m args below meth c hx hz H locs ls hR hS hl)
theorem xc_iload_n {k : Fin 4} {i : Nat} {x : Int32} (hk : (k : Nat) = i) (hi : xlg lv i = some (.int x)) (hd : decode (yB Y) pc = .ok (.iload_n k, 1)) (h : xC l G Y (pc + 1) lv (.int x :: r) M g cn sn Q) : xC l G Y pc lv r M g cn sn Q := fun p e s m args below meth c hx hz H locs ls hR hS hl => lv_iload_n hx.1 hx.2.1 hd hk (hl.2.2 _ _ hi) (h p e s m args below meth c hx hz H locs ls hR hS hl)
theorem xc_istore {i : Nat} {x : Int32} (hn : i < yL Y) (hd : decode (yB Y) pc = .ok (.istore i, 2)) (h : xC l G Y (pc + 2) (xs1 lv i (.int x)) r M g cn sn Q) : xC l G Y pc lv (.int x :: r) M g cn sn Q := fun p e s m args below meth c hx hz H locs ls hR hS hl => lv_istore hx.1 hx.2.1 hd hl.has hn rfl (fun ls h2 => h p e s m args below meth c hx hz H locs ls hR hS (xLs.put1 h2))
theorem xc_istore_n {k : Fin 4} {i : Nat} {x : Int32} (hk : (k : Nat) = i) (hn : i < yL Y) (hd : decode (yB Y) pc = .ok (.istore_n k, 1)) (h : xC l G Y (pc + 1) (xs1 lv i (.int x)) r M g cn sn Q) : xC l G Y pc lv (.int x :: r) M g cn sn Q := fun p e s m args below meth c hx hz H locs ls hR hS hl => lv_istore_n hx.1 hx.2.1 hd hk hl.has hn rfl (fun ls h2 => h p e s m args below meth c hx hz H locs ls hR hS (xLs.put1 h2))
theorem xc_lload {i : Nat} {x : Int64} (hi : xlg lv i = some (.long x)) (hd : decode (yB Y) pc = .ok (.lload i, 2)) (h : xC l G Y (pc + 2) lv (.long x :: r) M g cn sn Q) : xC l G Y pc lv r M g cn sn Q := fun p e s m args below meth c hx hz H locs ls hR hS hl => lv_lload hx.1 hx.2.1 hd (hl.2.2 _ _ hi) (h p e s m args below meth c hx hz H locs ls hR hS hl)
theorem xc_lload_n {k : Fin 4} {i : Nat} {x : Int64} (hk : (k : Nat) = i) (hi : xlg lv i = some (.long x)) (hd : decode (yB Y) pc = .ok (.lload_n k, 1)) (h : xC l G Y (pc + 1) lv (.long x :: r) M g cn sn Q) : xC l G Y pc lv r M g cn sn Q := fun p e s m args below meth c hx hz H locs ls hR hS hl => lv_lload_n hx.1 hx.2.1 hd hk (hl.2.2 _ _ hi) (h p e s m args below meth c hx hz H locs ls hR hS hl)
theorem xc_lstore {i : Nat} {x : Int64} (hn : i + 1 < yL Y) (hd : decode (yB Y) pc = .ok (.lstore i, 2)) (h : xC l G Y (pc + 2) (xs2 lv i (.long x)) r M g cn sn Q) : xC l G Y pc lv (.long x :: r) M g cn sn Q := fun p e s m args below meth c hx hz H locs ls hR hS hl => lv_lstore hx.1 hx.2.1 hd hl.has hn rfl (fun ls h2 => h p e s m args below meth c hx hz H locs ls hR hS (xLs.put2 h2))
theorem xc_lstore_n {k : Fin 4} {i : Nat} {x : Int64} (hk : (k : Nat) = i) (hn : i + 1 < yL Y) (hd : decode (yB Y) pc = .ok (.lstore_n k, 1)) (h : xC l G Y (pc + 1) (xs2 lv i (.long x)) r M g cn sn Q) : xC l G Y pc lv (.long x :: r) M g cn sn Q := fun p e s m args below meth c hx hz H locs ls hR hS hl => lv_lstore_n hx.1 hx.2.1 hd hk hl.has hn rfl (fun ls h2 => h p e s m args below meth c hx hz H locs ls hR hS (xLs.put2 h2))
theorem xc_aload {i : Nat} {x : Nat} (hi : xlg lv i = some (.ref x)) (hd : decode (yB Y) pc = .ok (.aload i, 2)) (h : xC l G Y (pc + 2) lv (.ref x :: r) M g cn sn Q) : xC l G Y pc lv r M g cn sn Q := fun p e s m args below meth c hx hz H locs ls hR hS hl => lv_aload hx.1 hx.2.1 hd (hl.2.2 _ _ hi) (h p e s m args below meth c hx hz H locs ls hR hS hl)
theorem xc_aload_n {k : Fin 4} {i : Nat} {x : Nat} (hk : (k : Nat) = i) (hi : xlg lv i = some (.ref x)) (hd : decode (yB Y) pc = .ok (.aload_n k, 1)) (h : xC l G Y (pc + 1) lv (.ref x :: r) M g cn sn Q) : xC l G Y pc lv r M g cn sn Q := fun p e s m args below meth c hx hz H locs ls hR hS hl => lv_aload_n hx.1 hx.2.1 hd hk (hl.2.2 _ _ hi) (h p e s m args below meth c hx hz H locs ls hR hS hl)
theorem xc_astore {i : Nat} {x : Nat} (hn : i < yL Y) (hd : decode (yB Y) pc = .ok (.astore i, 2)) (h : xC l G Y (pc + 2) (xs1 lv i (.ref x)) r M g cn sn Q) : xC l G Y pc lv (.ref x :: r) M g cn sn Q := fun p e s m args below meth c hx hz H locs ls hR hS hl => lv_astore hx.1 hx.2.1 hd hl.has hn rfl (fun ls h2 => h p e s m args below meth c hx hz H locs ls hR hS (xLs.put1 h2))
theorem xc_astore_n {k : Fin 4} {i : Nat} {x : Nat} (hk : (k : Nat) = i) (hn : i < yL Y) (hd : decode (yB Y) pc = .ok (.astore_n k, 1)) (h : xC l G Y (pc + 1) (xs1 lv i (.ref x)) r M g cn sn Q) : xC l G Y pc lv (.ref x :: r) M g cn sn Q := fun p e s m args below meth c hx hz H locs ls hR hS hl => lv_astore_n hx.1 hx.2.1 hd hk hl.has hn rfl (fun ls h2 => h p e s m args below meth c hx hz H locs ls hR hS (xLs.put1 h2))
theorem xc_iinc {i : Nat} {n : Int} {x c : Int32} (hi : xlg lv i = some (.int x)) (hc : Int32.ofInt n = c) (hd : decode (yB Y) pc = .ok (.iinc i n, 3)) (h : xC l G Y (pc + 3) (xs1 lv i (.int (x + c))) r M g cn sn Q) : xC l G Y pc lv r M g cn sn Q := by
  intro p e s m args below meth c0 hx hz H locs ls hR hS hl
  have hm := xin_as (G := G) lv 0 i _ hi
  rw [Nat.zero_add] at hm
  obtain ⟨k, hk⟩ := List.getElem?_of_mem hm
  exact lv_iinc hx.1 hx.2.1 hd hl.has hk (by rw [hc]) (xlg_lt hl hi) rfl (fun ls h2 => h p e s m args below meth c0 hx hz H locs ls hR hS (xLs.put1 h2))
theorem xc_if_eq {x : Int32} {off : Int} {t : Nat} (hd : decode (yB Y) pc = .ok (.ifCond .eq off, 3)) (ht : (pc : Int) + off = (t : Int)) (h1 : x = 0 → xC l G Y t lv r M g cn sn Q) (h2 : ¬ x = 0 → xC l G Y (pc + 3) lv r M g cn sn Q) : xC l G Y pc lv (.int x :: r) M g cn sn Q := fun p e s m args below meth c hx hz H locs ls hR hS hl => lv_if_eq hx.1 hx.2.1 hd ht (fun z => h1 z p e s m args below meth c hx hz H locs ls hR hS hl) (fun z => h2 z p e s m args below meth c hx hz H locs ls hR hS hl)
theorem xc_if_ne {x : Int32} {off : Int} {t : Nat} (hd : decode (yB Y) pc = .ok (.ifCond .ne off, 3)) (ht : (pc : Int) + off = (t : Int)) (h1 : ¬ x = 0 → xC l G Y t lv r M g cn sn Q) (h2 : x = 0 → xC l G Y (pc + 3) lv r M g cn sn Q) : xC l G Y pc lv (.int x :: r) M g cn sn Q := fun p e s m args below meth c hx hz H locs ls hR hS hl => lv_if_ne hx.1 hx.2.1 hd ht (fun z => h1 z p e s m args below meth c hx hz H locs ls hR hS hl) (fun z => h2 z p e s m args below meth c hx hz H locs ls hR hS hl)
theorem xc_if_lt {x : Int32} {off : Int} {t : Nat} (hd : decode (yB Y) pc = .ok (.ifCond .lt off, 3)) (ht : (pc : Int) + off = (t : Int)) (h1 : x < 0 → xC l G Y t lv r M g cn sn Q) (h2 : ¬ x < 0 → xC l G Y (pc + 3) lv r M g cn sn Q) : xC l G Y pc lv (.int x :: r) M g cn sn Q := fun p e s m args below meth c hx hz H locs ls hR hS hl => lv_if_lt hx.1 hx.2.1 hd ht (fun z => h1 z p e s m args below meth c hx hz H locs ls hR hS hl) (fun z => h2 z p e s m args below meth c hx hz H locs ls hR hS hl)
theorem xc_if_ge {x : Int32} {off : Int} {t : Nat} (hd : decode (yB Y) pc = .ok (.ifCond .ge off, 3)) (ht : (pc : Int) + off = (t : Int)) (h1 : ¬ x < 0 → xC l G Y t lv r M g cn sn Q) (h2 : x < 0 → xC l G Y (pc + 3) lv r M g cn sn Q) : xC l G Y pc lv (.int x :: r) M g cn sn Q := fun p e s m args below meth c hx hz H locs ls hR hS hl => lv_if_ge hx.1 hx.2.1 hd ht (fun z => h1 (Int32.not_lt.mpr z) p e s m args below meth c hx hz H locs ls hR hS hl) (fun z => h2 (Int32.not_le.mp z) p e s m args below meth c hx hz H locs ls hR hS hl)
theorem xc_if_gt {x : Int32} {off : Int} {t : Nat} (hd : decode (yB Y) pc = .ok (.ifCond .gt off, 3)) (ht : (pc : Int) + off = (t : Int)) (h1 : 0 < x → xC l G Y t lv r M g cn sn Q) (h2 : ¬ 0 < x → xC l G Y (pc + 3) lv r M g cn sn Q) : xC l G Y pc lv (.int x :: r) M g cn sn Q := fun p e s m args below meth c hx hz H locs ls hR hS hl => lv_if_gt hx.1 hx.2.1 hd ht (fun z => h1 z p e s m args below meth c hx hz H locs ls hR hS hl) (fun z => h2 z p e s m args below meth c hx hz H locs ls hR hS hl)
theorem xc_if_le {x : Int32} {off : Int} {t : Nat} (hd : decode (yB Y) pc = .ok (.ifCond .le off, 3)) (ht : (pc : Int) + off = (t : Int)) (h1 : ¬ 0 < x → xC l G Y t lv r M g cn sn Q) (h2 : 0 < x → xC l G Y (pc + 3) lv r M g cn sn Q) : xC l G Y pc lv (.int x :: r) M g cn sn Q := fun p e s m args below meth c hx hz H locs ls hR hS hl => lv_if_le hx.1 hx.2.1 hd ht (fun z => h1 (Int32.not_lt.mpr z) p e s m args below meth c hx hz H locs ls hR hS hl) (fun z => h2 (Int32.not_le.mp z) p e s m args below meth c hx hz H locs ls hR hS hl)
theorem xc_cmp_eq {x y : Int32} {off : Int} {t : Nat} (hd : decode (yB Y) pc = .ok (.if_icmp .eq off, 3)) (ht : (pc : Int) + off = (t : Int)) (h1 : x = y → xC l G Y t lv r M g cn sn Q) (h2 : ¬ x = y → xC l G Y (pc + 3) lv r M g cn sn Q) : xC l G Y pc lv (.int y :: .int x :: r) M g cn sn Q := fun p e s m args below meth c hx hz H locs ls hR hS hl => lv_icmp_eq hx.1 hx.2.1 hd ht (fun z => h1 z p e s m args below meth c hx hz H locs ls hR hS hl) (fun z => h2 z p e s m args below meth c hx hz H locs ls hR hS hl)
theorem xc_cmp_ne {x y : Int32} {off : Int} {t : Nat} (hd : decode (yB Y) pc = .ok (.if_icmp .ne off, 3)) (ht : (pc : Int) + off = (t : Int)) (h1 : ¬ x = y → xC l G Y t lv r M g cn sn Q) (h2 : x = y → xC l G Y (pc + 3) lv r M g cn sn Q) : xC l G Y pc lv (.int y :: .int x :: r) M g cn sn Q := fun p e s m args below meth c hx hz H locs ls hR hS hl => lv_icmp_ne hx.1 hx.2.1 hd ht (fun z => h1 z p e s m args below meth c hx hz H locs ls hR hS hl) (fun z => h2 z p e s m args below meth c hx hz H locs ls hR hS hl)
theorem xc_cmp_lt {x y : Int32} {off : Int} {t : Nat} (hd : decode (yB Y) pc = .ok (.if_icmp .lt off, 3)) (ht : (pc : Int) + off = (t : Int)) (h1 : x < y → xC l G Y t lv r M g cn sn Q) (h2 : ¬ x < y → xC l G Y (pc + 3) lv r M g cn sn Q) : xC l G Y pc lv (.int y :: .int x :: r) M g cn sn Q := fun p e s m args below meth c hx hz H locs ls hR hS hl => lv_icmp_lt hx.1 hx.2.1 hd ht (fun z => h1 z p e s m args below meth c hx hz H locs ls hR hS hl) (fun z => h2 z p e s m args below meth c hx hz H locs ls hR hS hl)
theorem xc_cmp_ge {x y : Int32} {off : Int} {t : Nat} (hd : decode (yB Y) pc = .ok (.if_icmp .ge off, 3)) (ht : (pc : Int) + off = (t : Int)) (h1 : ¬ x < y → xC l G Y t lv r M g cn sn Q) (h2 : x < y → xC l G Y (pc + 3) lv r M g cn sn Q) : xC l G Y pc lv (.int y :: .int x :: r) M g cn sn Q := fun p e s m args below meth c hx hz H locs ls hR hS hl => lv_icmp_ge hx.1 hx.2.1 hd ht (fun z => h1 (Int32.not_lt.mpr z) p e s m args below meth c hx hz H locs ls hR hS hl) (fun z => h2 (Int32.not_le.mp z) p e s m args below meth c hx hz H locs ls hR hS hl)
theorem xc_cmp_gt {x y : Int32} {off : Int} {t : Nat} (hd : decode (yB Y) pc = .ok (.if_icmp .gt off, 3)) (ht : (pc : Int) + off = (t : Int)) (h1 : y < x → xC l G Y t lv r M g cn sn Q) (h2 : ¬ y < x → xC l G Y (pc + 3) lv r M g cn sn Q) : xC l G Y pc lv (.int y :: .int x :: r) M g cn sn Q := fun p e s m args below meth c hx hz H locs ls hR hS hl => lv_icmp_gt hx.1 hx.2.1 hd ht (fun z => h1 z p e s m args below meth c hx hz H locs ls hR hS hl) (fun z => h2 z p e s m args below meth c hx hz H locs ls hR hS hl)
theorem xc_cmp_le {x y : Int32} {off : Int} {t : Nat} (hd : decode (yB Y) pc = .ok (.if_icmp .le off, 3)) (ht : (pc : Int) + off = (t : Int)) (h1 : ¬ y < x → xC l G Y t lv r M g cn sn Q) (h2 : y < x → xC l G Y (pc + 3) lv r M g cn sn Q) : xC l G Y pc lv (.int y :: .int x :: r) M g cn sn Q := fun p e s m args below meth c hx hz H locs ls hR hS hl => lv_icmp_le hx.1 hx.2.1 hd ht (fun z => h1 (Int32.not_lt.mpr z) p e s m args below meth c hx hz H locs ls hR hS hl) (fun z => h2 (Int32.not_le.mp z) p e s m args below meth c hx hz H locs ls hR hS hl)
theorem xc_goto {off : Int} {t : Nat} (ht : (pc : Int) + off = (t : Int)) (hd : decode (yB Y) pc = .ok (.goto off, 3)) (h : xC l G Y t lv r M g cn sn Q) : xC l G Y pc lv r M g cn sn Q := fun p e s m args below meth c hx hz H locs ls hR hS hl => lv_goto hx.1 hx.2.1 hd ht (h p e s m args below meth c hx hz H locs ls hR hS hl)
end XI
end
section
/-! Rows for fields, arrays, switches, returns -/
section XH
variable {l : Launch} {G : xG} {Y : xMD} {pc : Nat} {lv : xLv} {st r : List Value} {M : xMe} {g : xGh} {cn sn : Nat} {Q : Option Value → xMe → xGh → Prop}
theorem xgn_of {g : xGh} (h : xgn g ≤ 96) {k : Nat} (hk : k < xgn g) : k < 96 := by omega
theorem xA_all {G : xG} {s : State} (h : gB G ≤ s.heap.size) : ∀ q, s.heap.size ≤ q → xA G q := fun q hq => Nat.le_trans h hq
/-- behind a store: what was below the world is as it was -/
theorem xRp.stored {G : xG} {M M' : xMe} {g g' : xGh} {s : State} {H H1 : Heap} {locs1 : List Loc} (h : xRp G M g s H) (hb : gB G ≤ s.heap.size) (hS : va_S (xA G) s.heap H locs1) {locs2 : List Loc} (hP : va_P (gD G) xcls (xwl G M' g') H1) (hS1 : va_S (xA G) s.heap H1 locs2) : xRp G M' g' s H1 := by
  refine h.upd hP (fun q h1 h2 => ?_)
  have hq : q < s.heap.size := by
    have : ¬ gB G ≤ q := h2
    omega
  rw [hS1.2.1 q hq h2, hS.2.1 q hq h2]
theorem xcls_ok {ci : Nat} {q : vw_C} (h : xcls[ci]? = some q) : (∀ w ∈ u_ws q.1 q.2.1 q.2.2, w ∈ xtb) ∧ (∀ k, k < q.2.2 → parseFieldDescriptor (q.2.1 k).2.2.1 = some ((xnth xcty ci xY0) k)) ∧ (∀ a, a < q.2.2 → ∀ b, b < q.2.2 → a ≠ b → (q.2.1 a).2.1 ≠ (q.2.1 b).2.1) := by
  match ci, h with
  | 0, h => cases h; exact ⟨xtb_u xi0, xt0, xn0⟩
  | 1, h => cases h; exact ⟨xtb_u xi1, xt1, xn1⟩
  | 2, h => cases h; exact ⟨xtb_u xi2, xt2, xn2⟩
  | 3, h => cases h; exact ⟨xtb_u xi3, xt3, xn3⟩
  | 4, h => cases h; exact ⟨xtb_u xi4, xt4, xn4⟩
  | 5, h => cases h; exact ⟨xtb_u xi5, xt5, xn5⟩
  | 6, h => cases h; exact ⟨xtb_u xi6, xt6, xn6⟩
  | 7, h => cases h; exact ⟨xtb_u xi7, xt7, xn7⟩
  | k + 8, h => simp [xcls] at h
/-- an object's number of fields is that of its class -/
theorem xtl_o : ∀ k, k < 96 → ∀ ci, ci < 8 → xkd k = ci + 3 → ∃ q, xcls[ci]? = some q ∧ xtl k = q.2.2 := by
  have h : ∀ k, k < 96 → ∀ ci, ci < 8 → xkd k = ci + 3 → (xcls.map (fun q => q.2.2))[ci]? = some (xtl k) := by decide +kernel
  intro k hk ci hci e
  have h1 := h k hk ci hci e
  rw [List.getElem?_map] at h1
  cases hq : xcls[ci]? with
  | none => rw [hq] at h1; cases h1
  | some q => rw [hq] at h1; exact ⟨q, rfl, (Option.some.inj h1).symm⟩
theorem xrf_lt : ∀ k, k < 96 → ∀ j, j < 60 → ∀ t, xnth (xrf k) j none = some t → t < 96 := by
  have h : ∀ k, k < 96 → ∀ j, j < 60 → (match xnth (xrf k) j none with | none => true | some t => Nat.blt t 96) = true := by decide +kernel
  intro k hk j hj t e
  have h1 := h k hk j hj
  rw [e] at h1
  exact Nat.blt_eq.mp h1
theorem xkd_lt {k : Nat} (h : xkd k ≠ 99) : k < 98 := by
  have hl : ∀ (l : List (Nat × Nat × List (Option Nat))) (k : Nat), (xnth l k (99, 0, [])).1 ≠ 99 → k < l.length := by
    intro l
    induction l with
    | nil => intro k h; exact absurd rfl h
    | cons a l ih =>
      intro k h
      cases k with
      | zero => simp
      | succ k => have := ih k h; simp; omega
  exact hl xshp k h
theorem xkd_96 : xkd 96 = 0 := by decide +kernel
theorem xkd_97 : xkd 97 = 1 := by decide +kernel
theorem xkd_obj {k n : Nat} (h : xkd k = n + 3) (hn : n < 8) : k < 96 := by
  have h1 := xkd_lt (k := k) (by omega)
  rcases Nat.lt_or_ge k 96 with q | q
  · exact q
  · have : k = 96 ∨ k = 97 := by omega
    rcases this with rfl | rfl
    · rw [xkd_96] at h; omega
    · rw [xkd_97] at h; omega
abbrev xFL (cls : String) (i ci k : Nat) : Prop := ∃ c : vw_C, xcls[ci]? = some c ∧ k < c.2.2 ∧ Cond.fieldLink cls i (c.2.1 k).1 (c.2.1 k).2.1 (c.2.1 k).2.2.1 ∈ xtb
theorem xci_lt {ci : Nat} {c : vw_C} (h : xcls[ci]? = some c) : ci < 8 := (List.getElem?_eq_some_iff.mp h).1
theorem xc_get {i ci k j : Nat} {v : Value} (hf : xFL Y.1.cls i ci j) (hk : xkd k = ci + 3) (hg : k < xgn g) (hv : v = match xnth (xrf k) j none with | none => .int (M.1 k j) | some t => .ref t) (hset : xis g k j = true) (hd : decode (yB Y) pc = .ok (.getfield i, 3)) (h : xC l G Y (pc + 3) lv (v :: r) M g cn sn Q) : xC l G Y pc lv (.ref k :: r) M g cn sn Q := by
  intro p e s m args below meth c hx hz H locs ls hR hS hl
  obtain ⟨q, hq, hj, hw⟩ := hf
  have hci := xci_lt hq
  have hk96 := xkd_obj hk hci
  obtain ⟨q', hq', htl⟩ := xtl_o k hk96 ci hci hk
  cases hq.symm.trans hq'
  have hj60 : j < 60 := by
    have : ∀ ci, ci < 8 → ∀ q : vw_C, xcls[ci]? = some q → q.2.2 < 60 := by
      intro ci h q hq
      match ci, hq with
      | 0, h => cases h; decide
      | 1, h => cases h; decide
      | 2, h => cases h; decide
      | 3, h => cases h; decide
      | 4, h => cases h; decide
      | 5, h => cases h; decide
      | 6, h => cases h; decide
      | 7, h => cases h; decide
    have := this ci hci q hq
    omega
  have hva : xcv G v = xfv G M g k j := by
    rw [hv]
    unfold xfv
    cases ht : xnth (xrf k) j none with
    | none => rfl
    | some t =>
      have hlt := xrf_lt k hk96 j hj60 t ht
      show Value.ref (xad G t) = _
      rw [xad_lt hlt]
      simp [hset]
  have hP := hR.2.1
  have he := xwl_get (G := G) (M := M) hg
  rw [xent_o hk] at he
  have hk1 := hx.2.2.2.2.2.1
  show W p l e (yR Y) s m args below meth c H locs cn sn _ (F0 m pc ls (.ref (xad G k) :: r.map (xcv G)))
  rw [xad_lt hk96]
  refine va_get hx.1 hx.2.1 hk1 (xcls_ok hq).1 hx.2.2.2.2.1 hR.1 hP k he (C := q.1) (T := q.2.1) (N := q.2.2) hq j hj (hk1 _ hw) (fun x h => h) (v := xfv G M g k j) ?_ hd ?_
  · rw [List.getElem?_map, List.getElem?_range (by rw [htl]; exact hj)]
    rfl
  · rw [← hva]
    exact h p e s m args below meth c hx hz H locs ls hR hS hl
theorem xmap_set {n j : Nat} {f f' : Nat → Value} {v : Value} (hv : f' j = v) (ho : ∀ i, i ≠ j → f' i = f i) : ((List.range n).map f).set j v = (List.range n).map f' := by
  apply List.ext_getElem?
  intro i
  by_cases hi : i < n
  · by_cases hj : i = j
    · subst hj
      rw [List.getElem?_set_self (by simp; exact hi), List.getElem?_map, List.getElem?_range hi, ← hv]
      rfl
    · rw [List.getElem?_set_ne (Ne.symm hj), List.getElem?_map, List.getElem?_map, List.getElem?_range hi]
      show some (f i) = some (f' i)
      rw [ho i hj]
  · rw [List.getElem?_eq_none (by simp; omega), List.getElem?_eq_none (by simp; omega)]
theorem xfv_sI {G : xG} {M : xMe} {g : xGh} {k j : Nat} {x : Int32} (hn : xnth (xrf k) j none = none) : xfv G (xsI M k (upd (M.1 k) j x)) g k j = .int x ∧ ∀ i, i ≠ j → xfv G (xsI M k (upd (M.1 k) j x)) g k i = xfv G M g k i := by
  refine ⟨?_, fun i hi => ?_⟩
  · unfold xfv
    rw [hn, xsI_s]
    simp [upd]
  · unfold xfv
    rw [xsI_s]
    simp [upd, hi]
theorem xc_put {i ci k j : Nat} {x : Int32} {ty : FieldType} (hf : xFL Y.1.cls i ci j) (hk : xkd k = ci + 3) (hg : k < xgn g) (hn : xnth (xrf k) j none = none) (hty : (xnth xcty ci xY0) j = ty) (hfin : ∀ c, xcls[ci]? = some c → (c.2.1 j).2.2.2 = false) (hnar : narrow ty (.int x) = .int x) (hfit : fits ty (.int x) = true) (hd : decode (yB Y) pc = .ok (.putfield i, 3)) (h : xC l G Y (pc + 3) lv r (xsI M k (upd (M.1 k) j x)) g cn sn Q) : xC l G Y pc lv (.int x :: .ref k :: r) M g cn sn Q := by
  intro p e s m args below meth c hx hz H locs ls hR hS hl
  obtain ⟨q, hq, hj, hw⟩ := hf
  have hci := xci_lt hq
  have hk96 := xkd_obj hk hci
  obtain ⟨q', hq', htl⟩ := xtl_o k hk96 ci hci hk
  cases hq.symm.trans hq'
  have hP := hR.2.1
  have he := xwl_get (G := G) (M := M) hg
  rw [xent_o hk] at he
  have hk1 := hx.2.2.2.2.2.1
  obtain ⟨o1, o2, o3⟩ := xcls_ok hq
  show W p l e (yR Y) s m args below meth c H locs cn sn _ (F0 m pc ls (.int x :: .ref (xad G k) :: r.map (xcv G)))
  rw [xad_lt hk96]
  refine va_put hx.1 hx.2.1 hk1 o1 (xnth xcty ci xY0) o2 o3 hx.2.2.2.2.1 hR.1 hP xwl_D hS k he (C := q.1) (T := q.2.1) (N := q.2.2) hq j hj (hk1 _ hw) (fun x h => h) (hfin q hq) (ty := ty) (by rw [o2 j hj, hty]) hnar hfit (by simp; rw [htl]; exact hj) hd (fun H1 locs1 hP1 _ hS1 => ?_)
  have e1 : (xwl G M g).set k (gB G + k, .inr (ci, ((List.range (xtl k)).map (xfv G M g k)).set j (.int x))) = xwl G (xsI M k (upd (M.1 k) j x)) g := by
    refine xwl_set rfl rfl ?_ (fun i hi => xent_sI hi)
    rw [xent_o hk, xmap_set (xfv_sI hn).1 (xfv_sI hn).2]
  rw [e1] at hP1
  exact h p e s m args below meth c hx hz H1 locs1 ls (hR.stored hx.2.2.2.2.2.2.2.2.1 hS hP1 hS1) hS1 hl
end XH
end
section
/-! Rows for arrays, switches, returns -/
section XJ
variable {l : Launch} {G : xG} {Y : xMD} {pc : Nat} {lv : xLv} {st r : List Value} {M : xMe} {g : xGh} {cn sn : Nat} {Q : Option Value → xMe → xGh → Prop}
theorem xc_iald {k : Nat} {i : Int32} (hk : xkd k = 0) (h96 : k < 96) (hg : k < xgn g) (hin : vp_in i (xtl k)) (hd : decode (yB Y) pc = .ok (.iaload, 1)) (h : xC l G Y (pc + 1) lv (.int (M.1 k i.toNatClampNeg) :: r) M g cn sn Q) : xC l G Y pc lv (.int i :: .ref k :: r) M g cn sn Q := by
  intro p e s m args below meth c hx hz H locs ls hR hS hl
  have he := xwl_get (G := G) (M := M) hg
  rw [xent_i hk] at he
  show W p l e (yR Y) s m args below meth c H locs cn sn _ (F0 m pc ls (.int i :: .ref (xad G k) :: r.map (xcv G)))
  rw [xad_lt h96]
  exact va_iald hx.1 hx.2.1 hR.1 hR.2.1 k 0 he rfl hin hd (h p e s m args below meth c hx hz H locs ls hR hS hl)
theorem xc_zald {k : Nat} {i : Int32} (hk : xkd k = 2) (h96 : k < 96) (hg : k < xgn g) (hin : vp_in i (xtl k)) (hd : decode (yB Y) pc = .ok (.baload, 1)) (h : xC l G Y (pc + 1) lv (.int (M.1 k i.toNatClampNeg) :: r) M g cn sn Q) : xC l G Y pc lv (.int i :: .ref k :: r) M g cn sn Q := by
  intro p e s m args below meth c hx hz H locs ls hR hS hl
  have he := xwl_get (G := G) (M := M) hg
  rw [xent_z hk] at he
  show W p l e (yR Y) s m args below meth c H locs cn sn _ (F0 m pc ls (.int i :: .ref (xad G k) :: r.map (xcv G)))
  rw [xad_lt h96]
  exact va_zald hx.1 hx.2.1 hR.1 hR.2.1 k 2 he rfl hin hd (h p e s m args below meth c hx hz H locs ls hR hS hl)
theorem xc_lald {k : Nat} {i : Int32} (hk : xkd k = 1) (h96 : k < 96) (hg : k < xgn g) (hin : vp_in i (xtl k)) (hd : decode (yB Y) pc = .ok (.laload, 1)) (h : xC l G Y (pc + 1) lv (.long (M.2 k i.toNatClampNeg) :: r) M g cn sn Q) : xC l G Y pc lv (.int i :: .ref k :: r) M g cn sn Q := by
  intro p e s m args below meth c hx hz H locs ls hR hS hl
  have he := xwl_get (G := G) (M := M) hg
  rw [xent_l hk] at he
  show W p l e (yR Y) s m args below meth c H locs cn sn _ (F0 m pc ls (.int i :: .ref (xad G k) :: r.map (xcv G)))
  rw [xad_lt h96]
  exact va_lald hx.1 hx.2.1 hR.1 hR.2.1 k 1 he rfl hin hd (h p e s m args below meth c hx hz H locs ls hR hS hl)
theorem xc_iast {k : Nat} {i x : Int32} (hk : xkd k = 0) (h96 : k < 96) (hg : k < xgn g) (hin : vp_in i (xtl k)) (hd : decode (yB Y) pc = .ok (.iastore, 1)) (h : xC l G Y (pc + 1) lv r (xsI M k (upd (M.1 k) i.toNatClampNeg x)) g cn sn Q) : xC l G Y pc lv (.int x :: .int i :: .ref k :: r) M g cn sn Q := by
  intro p e s m args below meth c hx hz H locs ls hR hS hl
  have he := xwl_get (G := G) (M := M) hg
  rw [xent_i hk] at he
  show W p l e (yR Y) s m args below meth c H locs cn sn _ (F0 m pc ls (.int x :: .int i :: .ref (xad G k) :: r.map (xcv G)))
  rw [xad_lt h96]
  refine va_iast hx.1 hx.2.1 hR.1 hR.2.1 xwl_D hS k 0 he rfl hin hd (fun H1 locs1 hP1 _ hS1 => ?_)
  rw [xwl_set (M' := xsI M k (upd (M.1 k) i.toNatClampNeg x)) (g' := g) rfl rfl (by rw [xent_i hk, xsI_s]) (fun j hj => xent_sI hj)] at hP1
  exact h p e s m args below meth c hx hz H1 locs1 ls (hR.stored hx.2.2.2.2.2.2.2.2.1 hS hP1 hS1) hS1 hl
theorem xnar_z {x : Int32} (h : x = 0 ∨ x = 1) : vp_nar .boolean x = x := by
  rcases h with rfl | rfl <;> rfl
theorem xc_zast {k : Nat} {i x : Int32} (hk : xkd k = 2) (h96 : k < 96) (hg : k < xgn g) (hin : vp_in i (xtl k)) (hb : x = 0 ∨ x = 1) (hd : decode (yB Y) pc = .ok (.bastore, 1)) (h : xC l G Y (pc + 1) lv r (xsI M k (upd (M.1 k) i.toNatClampNeg x)) g cn sn Q) : xC l G Y pc lv (.int x :: .int i :: .ref k :: r) M g cn sn Q := by
  intro p e s m args below meth c hx hz H locs ls hR hS hl
  have he := xwl_get (G := G) (M := M) hg
  rw [xent_z hk] at he
  show W p l e (yR Y) s m args below meth c H locs cn sn _ (F0 m pc ls (.int x :: .int i :: .ref (xad G k) :: r.map (xcv G)))
  rw [xad_lt h96]
  refine va_zast hx.1 hx.2.1 hR.1 hR.2.1 xwl_D hS k 2 he rfl hin hd (fun H1 locs1 hP1 _ hS1 => ?_)
  rw [xnar_z hb, xwl_set (M' := xsI M k (upd (M.1 k) i.toNatClampNeg x)) (g' := g) rfl rfl (by rw [xent_z hk, xsI_s]) (fun j hj => xent_sI hj)] at hP1
  exact h p e s m args below meth c hx hz H1 locs1 ls (hR.stored hx.2.2.2.2.2.2.2.2.1 hS hP1 hS1) hS1 hl
theorem xc_last {k : Nat} {i : Int32} {x : Int64} (hk : xkd k = 1) (h96 : k < 96) (hg : k < xgn g) (hin : vp_in i (xtl k)) (hd : decode (yB Y) pc = .ok (.lastore, 1)) (h : xC l G Y (pc + 1) lv r (xsL M k (vp_updL (M.2 k) i.toNatClampNeg x)) g cn sn Q) : xC l G Y pc lv (.long x :: .int i :: .ref k :: r) M g cn sn Q := by
  intro p e s m args below meth c hx hz H locs ls hR hS hl
  have he := xwl_get (G := G) (M := M) hg
  rw [xent_l hk] at he
  show W p l e (yR Y) s m args below meth c H locs cn sn _ (F0 m pc ls (.long x :: .int i :: .ref (xad G k) :: r.map (xcv G)))
  rw [xad_lt h96]
  refine va_last hx.1 hx.2.1 hR.1 hR.2.1 xwl_D hS k 1 he rfl hin hd (fun H1 locs1 hP1 _ hS1 => ?_)
  rw [xwl_set (M' := xsL M k (vp_updL (M.2 k) i.toNatClampNeg x)) (g' := g) rfl rfl (by rw [xent_l hk, xsL_s]) (fun j hj => xent_sL hj)] at hP1
  exact h p e s m args below meth c hx hz H1 locs1 ls (hR.stored hx.2.2.2.2.2.2.2.2.1 hS hP1 hS1) hS1 hl
/-- the script -/
theorem xc_sld {i : Int32} (hin : vp_in i (gL G)) (hd : decode (yB Y) pc = .ok (.iaload, 1)) (h : xC l G Y (pc + 1) lv (.int (gx G i.toNatClampNeg) :: r) M g cn sn Q) : xC l G Y pc lv (.int i :: .ref 96 :: r) M g cn sn Q := by
  intro p e s m args below meth c hx hz H locs ls hR hS hl
  obtain ⟨scr, h1, h2, h3, h4, h5⟩ := hR.2.2.1
  have hlt : i.toNatClampNeg < gL G := Nat.not_le.mp fun q => hin (Or.inr q)
  exact W.iald hx.1 hx.2.1 h1 h2 h3 (by rw [h4]; exact hin) (h5 _ hlt) rfl rfl hd (h p e s m args below meth c hx hz H locs ls hR hS hl)
theorem xc_slen (hd : decode (yB Y) pc = .ok (.arraylength, 1)) (h : xC l G Y (pc + 1) lv (.int (Int32.ofNat (gL G)) :: r) M g cn sn Q) : xC l G Y pc lv (.ref 96 :: r) M g cn sn Q := by
  intro p e s m args below meth c hx hz H locs ls hR hS hl
  obtain ⟨scr, h1, h2, h3, h4, h5⟩ := hR.2.2.1
  exact W.alen hx.1 hx.2.1 h1 h2 (by rw [h4]) rfl rfl hd (h p e s m args below meth c hx hz H locs ls hR hS hl)
/-- the table of masks -/
theorem xc_hld {i : Int32} (hin : vp_in i 6) (hd : decode (yB Y) pc = .ok (.laload, 1)) (h : xC l G Y (pc + 1) lv (.long (xhv i.toNatClampNeg) :: r) M g cn sn Q) : xC l G Y pc lv (.int i :: .ref 97 :: r) M g cn sn Q := by
  intro p e s m args below meth c hx hz H locs ls hR hS hl
  obtain ⟨cell, h1, h2, h3, h4, h4', h5, h6⟩ := hR.2.2.2.2.2
  have hlt : i.toNatClampNeg < 6 := Nat.not_le.mp fun q => hin (Or.inr q)
  exact W.lald hx.1 hx.2.1 h1 h2 h3 (fun q => hin (q.imp id (fun z => Nat.le_trans h4 z))) (h5 _ hlt) rfl rfl hd (h p e s m args below meth c hx hz H locs ls hR hS hl)
theorem xc_hlen (hd : decode (yB Y) pc = .ok (.arraylength, 1)) (h : xC l G Y (pc + 1) lv (.int (Int32.ofNat 6) :: r) M g cn sn Q) : xC l G Y pc lv (.ref 97 :: r) M g cn sn Q := by
  intro p e s m args below meth c hx hz H locs ls hR hS hl
  obtain ⟨cell, h1, h2, h3, h4, h4', h5, h6⟩ := hR.2.2.2.2.2
  exact W.alen hx.1 hx.2.1 h1 h2 h4' rfl rfl hd (h p e s m args below meth c hx hz H locs ls hR hS hl)
theorem xc_gets {i : Nat} (hw : Cond.fieldLink Y.1.cls i "DataShrinker$OctetSet" "HAVING" "[J" ∈ xtb) (hd : decode (yB Y) pc = .ok (.getstatic i, 3)) (h : xC l G Y (pc + 3) lv (.ref 97 :: r) M g cn sn Q) : xC l G Y pc lv r M g cn sn Q := by
  intro p e s m args below meth c hx hz H locs ls hR hS hl
  obtain ⟨cf, kf, fi, f, a, cell, h1, h2, h3, h4, h5, h6, h7, h8⟩ := hR.2.2.2.2.1
  exact W.gets hx.1 hx.2.1 hx.2.2.2.2.1 (hx.2.2.2.2.2.1 _ hw) h1 h2 h3 h4 h5 (fun e => by rw [e] at h6; cases h6) h7 rfl hd (h p e s m args below meth c hx hz H locs ls hR hS hl)
theorem xc_alen {k : Nat} (hk : xkd k < 3) (h96 : k < 96) (hg : k < xgn g) (hd : decode (yB Y) pc = .ok (.arraylength, 1)) (h : xC l G Y (pc + 1) lv (.int (Int32.ofNat (xtl k)) :: r) M g cn sn Q) : xC l G Y pc lv (.ref k :: r) M g cn sn Q := by
  intro p e s m args below meth c hx hz H locs ls hR hS hl
  have he := xwl_get (G := G) (M := M) hg
  show W p l e (yR Y) s m args below meth c H locs cn sn _ (F0 m pc ls (.ref (xad G k) :: r.map (xcv G)))
  rw [xad_lt h96]
  have hkk := h p e s m args below meth c hx hz H locs ls hR hS hl
  rcases (show xkd k = 0 ∨ xkd k = 1 ∨ xkd k = 2 by omega) with q | q | q
  · rw [xent_i q] at he
    exact va_alen hx.1 hx.2.1 hR.1 hR.2.1 k 0 he rfl rfl hd hkk
  · rw [xent_l q] at he
    exact va_alen hx.1 hx.2.1 hR.1 hR.2.1 k 1 he rfl rfl hd hkk
  · rw [xent_z q] at he
    exact va_alen hx.1 hx.2.1 hR.1 hR.2.1 k 2 he rfl rfl hd hkk
/-- switches -/
theorem xsw_lookup {x : Int32} {k : Int → Prop} {d : Int} : ∀ (l : List (Int × Int)), (l.all fun q => decide ((Int32.ofInt q.1).toInt = q.1)) = true → xsw x k d l → k (Op.lookupswitch.offset l d x.toInt)
  | [], _, h => h
  | q :: l, hl, h => by
    simp only [List.all_cons, Bool.and_eq_true, decide_eq_true_eq] at hl
    by_cases hx : x = Int32.ofInt q.1
    · have h1 := h.1 hx
      have e : x.toInt = q.1 := by rw [hx]; exact hl.1
      have : Op.lookupswitch.offset (q :: l) d x.toInt = q.2 := by
        simp [Op.lookupswitch.offset, e]
      rw [this]
      exact h1
    · have h1 := xsw_lookup l hl.2 (h.2 hx)
      have e : Op.lookupswitch.offset (q :: l) d x.toInt = Op.lookupswitch.offset l d x.toInt := lv_osw (a := q.1) (o := q.2) hx hl.1
      rw [e]
      exact h1
theorem xc_lookup {x : Int32} {d : Int} {ps : Array (Int × Int)} {len : Nat} (hd : decode (yB Y) pc = .ok (.lookupswitch d ps, len)) (hp : (ps.toList.zip (ps.toList.drop 1)).all (fun (a, next) => a.1 < next.1) = true) (hl : (ps.toList.all fun q => decide ((Int32.ofInt q.1).toInt = q.1)) = true) (h : xsw x (fun o => ∃ t : Nat, (pc : Int) + o = (t : Int) ∧ xC l G Y t lv r M g cn sn Q) d ps.toList) : xC l G Y pc lv (.int x :: r) M g cn sn Q := by
  intro p e s m args below meth c hx hz H locs ls hR hS hl2
  obtain ⟨t, ht, hk⟩ := xsw_lookup ps.toList hl h
  exact lv_lookup hx.1 hx.2.1 hd hp rfl ht (hk p e s m args below meth c hx hz H locs ls hR hS hl2)
theorem xsw_table {x : Int32} {k : Int → Prop} {d : Int} : ∀ (offs : List Int) (lo : Int), ((xtab lo offs).all fun q => decide ((Int32.ofInt q.1).toInt = q.1)) = true → xsw x k d (xtab lo offs) → ((x.toInt < lo ∨ lo + offs.length ≤ x.toInt) → k d) ∧ (¬ x.toInt < lo → ¬ lo + offs.length ≤ x.toInt → ∃ o, offs[(x.toInt - lo).toNat]? = some o ∧ k o)
  | [], lo, _, h => ⟨fun _ => h, fun h1 h2 => by simp at h2; omega⟩
  | o :: l, lo, hl, h => by
    simp only [xtab, List.all_cons, Bool.and_eq_true, decide_eq_true_eq] at hl
    by_cases hx : x = Int32.ofInt lo
    · have h1 := h.1 hx
      have e : x.toInt = lo := by rw [hx]; exact hl.1
      refine ⟨fun q => ?_, fun _ _ => ⟨o, ?_, h1⟩⟩
      · simp at q; omega
      · rw [e]; simp
    · have hne : x.toInt ≠ lo := fun q => hx (Int32.toInt_inj.mp (q.trans hl.1.symm))
      obtain ⟨h1, h2⟩ := xsw_table l (lo + 1) hl.2 (h.2 hx)
      refine ⟨fun q => h1 ?_, fun q1 q2 => ?_⟩
      · simp at q
        omega
      · simp at q2
        obtain ⟨o', ho, hk⟩ := h2 (by omega) (by omega)
        refine ⟨o', ?_, hk⟩
        rw [show (x.toInt - lo).toNat = (x.toInt - (lo + 1)).toNat + 1 by omega]
        exact ho
theorem xc_table {x : Int32} {d lo hi : Int} {offs : Array Int} {len : Nat} (hd : decode (yB Y) pc = .ok (.tableswitch d lo hi offs, len)) (hh : hi + 1 = lo + offs.toList.length) (hl : ((xtab lo offs.toList).all fun q => decide ((Int32.ofInt q.1).toInt = q.1)) = true) (h : xsw x (fun o => ∃ t : Nat, (pc : Int) + o = (t : Int) ∧ xC l G Y t lv r M g cn sn Q) d (xtab lo offs.toList)) : xC l G Y pc lv (.int x :: r) M g cn sn Q := by
  intro p e s m args below meth c hx hz H locs ls hR hS hl2
  obtain ⟨h1, h2⟩ := xsw_table offs.toList lo hl h
  by_cases q : x.toInt < lo ∨ hi < x.toInt
  · obtain ⟨t, ht, hk⟩ := h1 (by omega)
    exact lv_tableOut hx.1 hx.2.1 hd q ht (hk p e s m args below meth c hx hz H locs ls hR hS hl2)
  · obtain ⟨o, ho, t, ht, hk⟩ := h2 (by omega) (by omega)
    exact lv_tableIn hx.1 hx.2.1 hd (by omega) (by omega) (by rw [← ho]; simp) ht (hk p e s m args below meth c hx hz H locs ls hR hS hl2)
/-- returns -/
theorem xQc_end {G : xG} {s t : State} {H : Heap} {locs : List Loc} {v : Option Value} {args : Array Value} (hR : xRp G M g s H) (hS : va_S (xA G) s.heap H locs) (hq : Q v M g) (ht : t.heap = H) (hW : s.WarmedH t.vm) : xQc G Q args s (.returned (v.map (xcv G))) t :=
  ⟨⟨v, M, g, rfl, hq, by rw [ht]; exact hR.moved hW.alike⟩, hS.F ht⟩
theorem xc_iret {x : Int32} (ht : yT Y = some .int) (hcn : cn ≤ (yR Y).cells) (hsn : sn ≤ (yR Y).slots) (hd : decode (yB Y) pc = .ok (.ireturn, 1)) (h : Q (some (.int x)) M g) : xC l G Y pc lv [.int x] M g cn sn Q := by
  intro p e s m args below meth c hx hz H locs ls hR hS hl
  refine W.widen hcn hsn ?_
  exact W.iret hx.1 hx.2.1 (hx.2.2.1.trans ht) (fun t h1 h2 => xQc_end (v := some (.int x)) hR hS h h1 h2) hS.2.2 hd hx.2.2.2.2.2.2.1
theorem xc_zret {x : Int32} (ht : yT Y = some .boolean) (hb : x = 0 ∨ x = 1) (hcn : cn ≤ (yR Y).cells) (hsn : sn ≤ (yR Y).slots) (hd : decode (yB Y) pc = .ok (.ireturn, 1)) (h : Q (some (.int x)) M g) : xC l G Y pc lv [.int x] M g cn sn Q := by
  intro p e s m args below meth c hx hz H locs ls hR hS hl
  refine W.widen hcn hsn ?_
  exact W.zret hx.1 hx.2.1 (hx.2.2.1.trans ht) (by rcases hb with rfl | rfl <;> rfl) (fun t h1 h2 => xQc_end (v := some (.int x)) hR hS h h1 h2) hS.2.2 hd hx.2.2.2.2.2.2.1
theorem xc_lret {x : Int64} (ht : yT Y = some .long) (hcn : cn ≤ (yR Y).cells) (hsn : sn ≤ (yR Y).slots) (hd : decode (yB Y) pc = .ok (.lreturn, 1)) (h : Q (some (.long x)) M g) : xC l G Y pc lv [.long x] M g cn sn Q := by
  intro p e s m args below meth c hx hz H locs ls hR hS hl
  refine W.widen hcn hsn ?_
  exact W.lret hx.1 hx.2.1 (hx.2.2.1.trans ht) (fun t h1 h2 => xQc_end (v := some (.long x)) hR hS h h1 h2) hS.2.2 hd hx.2.2.2.2.2.2.1
theorem xc_vret (ht : yT Y = none) (hcn : cn ≤ (yR Y).cells) (hsn : sn ≤ (yR Y).slots) (hd : decode (yB Y) pc = .ok (.return_, 1)) (h : Q none M g) : xC l G Y pc lv [] M g cn sn Q := by
  intro p e s m args below meth c hx hz H locs ls hR hS hl
  refine W.widen hcn hsn ?_
  exact W.vret hx.1 hx.2.1 (hx.2.2.1.trans ht) (fun t h1 h2 => xQc_end (v := none) hR hS h h1 h2) hS.2.2 hd hx.2.2.2.2.2.2.1
/-- weaker knowledge of the variables, of the end -/
theorem xc_lv {lv' : xLv} (hv : ∀ i v, xlg lv' i = some v → xlg lv i = some v) (h : xC l G Y pc lv' st M g cn sn Q) : xC l G Y pc lv st M g cn sn Q := fun p e s m args below meth c hx hz H locs ls hR hS hl => h p e s m args below meth c hx hz H locs ls hR hS ⟨hl.1, hl.2.1, fun i v hi => hl.2.2 i v (hv i v hi)⟩
theorem xc_post {Q' : Option Value → xMe → xGh → Prop} (hQ : ∀ v M g, Q' v M g → Q v M g) (h : xC l G Y pc lv st M g cn sn Q') : xC l G Y pc lv st M g cn sn Q := by
  intro p e s m args below meth c hx hz H locs ls hR hS hl T hT X
  obtain ⟨t, a, o, h1, h2, h3, h4⟩ := h p e s m args below meth c hx hz H locs ls hR hS hl T hT X
  refine ⟨t, a, o, h1, h2, ⟨?_, h3.2⟩, h4⟩
  obtain ⟨r, M', g', e1, e2, e3⟩ := h3.1
  exact ⟨r, M', g', e1, hQ _ _ _ e2, e3⟩
end XJ
end
section
/-! Contracts and calls -/
theorem xsl_len {G : xG} : ∀ a : List Value, (lg_sl (a.map (xcv G))).length = (xarg a).length
  | [] => rfl
  | v :: a => by
    have ih := xsl_len (G := G) a
    unfold lg_sl at ih ⊢
    rw [List.map_cons, List.flatMap_cons, List.length_append, ih, xcv_cat]
    rcases lv_cat v with q | q
    · have e : xarg (v :: a) = some v :: xarg a := by
        show (match v.category with | 2 => some v :: none :: xarg a | _ => some v :: xarg a) = _
        rw [q]
        rfl
      rw [e]
      simp [q]
      omega
    · have e : xarg (v :: a) = some v :: none :: xarg a := by
        show (match v.category with | 2 => some v :: none :: xarg a | _ => some v :: xarg a) = _
        rw [q]
        rfl
      rw [e]
      simp [q]
      omega
theorem xT_of {l : Launch} {G : xG} {Y : xMD} {a : List Value} {M : xMe} {g : xGh} {Q : Option Value → xMe → xGh → Prop} (hpl : plainName Y.1.cls = true) (hlen : (xarg a).length ≤ yL Y) (h : xC l G Y 0 (xarg a) [] M g 0 0 Q) : xT l G Y a M g Q := by
  refine Met.ofW (cc := yB Y) (maxL := yL Y) (ret := yT Y) hpl rfl ?_
  intro p e s m args below meth c s₁ B hml hv
  obtain ⟨rfl, hR, hb, hz, hN⟩ := hv
  have hl := lv_entry (a.map (xcv G)) (n := yL Y) (by rw [xsl_len]; exact hlen)
  have hts := atoms_spec (ws := xws Y) B.pre
  rw [lg_entry_eq]
  exact h p e s m _ below meth c ⟨B.exec, B.bytes, B.returns, hml, findClass_of_methodNamed B.named, fun w hw => hts w (List.mem_cons_of_mem _ hw), B.notSynchronized, (name_of_methodNamed B.named B.method).1, hb, hN⟩ hz s.heap [] _ hR va_S.rf ⟨hl.1, hl.2.1, fun i v hi => hl.2.2 _ (xarg_get a 0 i v hi)⟩
theorem xlw_good : ∀ w ∈ xtb, (w.onTables && w.keeps) = true ∨ ∃ ty, w = .arrayClass ty := fun w hw => good_of_word (List.mem_filter.mp hw).2
theorem xgood {Z : xMD} (hc : Cond.code Z.1 (yB Z) (yL Z) (yT Z) ∈ xtb) : GoodIn xtb (xws Z) := by
  intro w hw
  rcases List.mem_cons.mp hw with h | h
  · subst h
    exact ⟨hc, xlw_good _ hc⟩
  · exact ⟨h, xlw_good _ h⟩
/-- what is the same for every call of Z -/
abbrev xZ (Z : xMD) (n : Nat) : Prop := Cond.initialized Z.1.cls ∈ xtb ∧ Cond.code Z.1 (yB Z) (yL Z) (yT Z) ∈ xtb ∧ Z.1.cls ≠ "java/lang/invoke/MethodHandle" ∧ Z.1.cls ≠ "java/lang/invoke/VarHandle" ∧ (parseMethodDescriptor Z.1.desc).map (fun d => d.parameters.length) = some n
abbrev xLk (cls : String) (i : Nat) (y : MethodName) : Prop := Cond.methodLink cls i y ∈ xtb ∨ ∃ host, (cls, i, y, host) ∈ xnst
abbrev xRm (Y Z : xMD) : Prop := (yR Z).frames + 1 ≤ (yR Y).frames ∧ 8 + (yL Z + 11) + (yR Z).locals ≤ (yR Y).locals
theorem xsz {p : Program} {l : Launch} {e : Env} {R : Room} {s : State} {m : MethodId} {args : Array Value} {below : List Frame} {meth : Method} {c : Code} {T : State} {locs : List Loc} {cn sn : Nat} {G : xG} {M : xMe} {g : xGh} (X : Stand p l e R s m args below meth c T locs cn sn) (hz : xSz G g (s.heap.size + cn)) (hb : gB G ≤ s.heap.size) (hP : va_P (gD G) xcls (xwl G M g) T.heap) (hS : va_S (xA G) s.heap T.heap locs) : xSz G g T.heap.size := by
  cases g with
  | none => trivial
  | some q =>
    have h1 := X.heapSize
    have h2 : s.heap.size + cn = gB G + q.1 := hz
    have h3 := hS.1
    show T.heap.size = gB G + q.1
    rcases Nat.eq_zero_or_pos q.1 with h0 | h0
    · omega
    · have h4 := (hP (q.1 - 1) _ (xwl_get (g := some q) (show q.1 - 1 < q.1 by omega))).lt
      have h5 : gB G + (q.1 - 1) < T.heap.size := h4
      omega
theorem xW_of {p : Program} {l : Launch} {e : Env} {R : Room} {s : State} {m : MethodId} {args : Array Value} {below : List Frame} {meth : Method} {c : Code} {H : Heap} {locs : List Loc} {cn sn : Nat} {Q : State → Prop} {g : JFrame} (h : ∀ T : State, T.heap = H → Stand p l e R s m args below meth c T locs cn sn → W p l e R s m args below meth c H locs cn sn Q g) : W p l e R s m args below meth c H locs cn sn Q g := fun T hT X => h T hT X T hT X
section XR
variable {p : Program} {l : Launch} {e : Env} {R : Room} {s : State} {m : MethodId} {args : Array Value} {below : List Frame} {meth : Method} {c : Code} {H : Heap} {locs : List Loc} {cells slots : Nat} {Q : State → Prop}
theorem xrun {G : xG} {pc : Nat} {ls : Array Slot} {st0 rest : List Value} {mc ms : Nat} {Q1 : Option Value → xMe → xGh → Prop} {a : Array Value} (hr : va_Run p l e R s m args below meth c H locs cells slots mc ms (F0 m pc ls st0) rest (xQc G Q1 a) (xA G)) (hS : va_S (xA G) s.heap H locs)
    (kk : ∀ (r : Option Value) (M' : xMe) (g' : xGh) (H1 : Heap) (locs1 : List Loc), Q1 r M' g' → xRp G M' g' s H1 → va_S (xA G) s.heap H1 locs1 → W p l e R s m args below meth c H1 locs1 (cells + mc) (slots + ms) Q (F0 m (pc + 3) ls ((r.map (xcv G)).toList ++ rest))) : W p l e R s m args below meth c H locs cells slots Q (F0 m pc ls st0) := by
  intro T hT X
  obtain ⟨v, st₀, t, T', L, h0, X', hL, e1, e2, ⟨⟨r, M', g', hv, hq, hR'⟩, hz, hk⟩, st⟩ := hr T hT X
  cases hv
  rw [h0] at hz hk
  have hR2 : xRp G M' g' s T'.heap := by
    rw [e1]
    exact hR'.moved (by rw [← e2]; exact X'.warmed.alike.symm)
  obtain ⟨t2, a1, b1⟩ := kk r M' g' T'.heap (locs ++ L) hq hR2 ⟨Nat.le_trans hS.1 (by rw [e1]; exact hz), fun q h1 h2 => by rw [e1, hk q (Nat.lt_of_lt_of_le h1 hS.1) h2]; exact hS.2.1 q h1 h2, fun q hq => by
      rcases List.mem_append.mp hq with h | h
      · exact hS.2.2 q h
      · exact hL q h⟩ T' rfl X'
  exact ⟨t2, st t2 a1, b1⟩
end XR
theorem xmap_cat {G : xG} (r : List Value) : ((r.map (xcv G)).map fun v => v.category).sum = (r.map fun v => v.category).sum := by
  rw [List.map_map]
  congr 1
  apply List.map_congr_left
  intro v _
  exact xcv_cat v
theorem xblind {G : xG} {a : List Value} {M : xMe} {g : xGh} : FrameBlind (va_Pc (a.map (xcv G)) (xPr G M g)) := by
  intro v U f mk h
  obtain ⟨h1, h2, h3, h4, h5⟩ := h
  exact ⟨h1, xRp.moved (u := U) (U := U.calling f mk v) (Vm.Alike.refl U.vm) h2, h3, h4, xNst.same (u := U) (U := U.calling f mk v) rfl h5⟩
theorem xtoL {G : xG} (r : Option Value) (rest : List Value) : (r.map (xcv G)).toList ++ rest.map (xcv G) = (r.toList ++ rest).map (xcv G) := by cases r <;> simp
theorem xpay {args : Array Value} {s : State} {Z : xMD} (ht : ∀ w ∈ xtb, w.before args s = true) (hc : Cond.code Z.1 (yB Z) (yL Z) (yT Z) ∈ xtb) : ∀ w ∈ xws Z, ∀ (a' : Array Value) (U : State), s.WarmedH U.vm → w.before a' U = true := fun w hw a' U hW => word_at hW (xgood hc w hw).2 (ht w (xgood hc w hw).1)
section XK
variable {l : Launch} {G : xG} {Y Z : xMD} {pc : Nat} {lv : xLv} {st r : List Value} {M : xMe} {g : xGh} {cn sn : Nat} {Q Q1 : Option Value → xMe → xGh → Prop}
/-- a new object's place while the world is made -/
def xSz2 (g g' : xGh) (mc : Nat) : Prop := match g, g' with
  | none, none => True
  | some q, some q' => q'.1 = q.1 + mc
  | _, _ => False
theorem xSz_call {G : xG} {g g' : xGh} {n cn mc : Nat} (h : xSz G g (n + cn)) (h2 : xSz2 g g' mc) : xSz G g' (n + (cn + mc)) := by
  cases g with
  | none =>
    cases g' with
    | none => trivial
    | some q => exact h2.elim
  | some q =>
    cases g' with
    | none => exact h2.elim
    | some q' =>
      have h1 : n + cn = gB G + q.1 := h
      have h3 : q'.1 = q.1 + mc := h2
      show n + (cn + mc) = gB G + q'.1
      omega
theorem xc_callS (a : List Value) {i n : Nat} (hZ : xZ Z n) (hst : Cond.static Z.1 ∈ xtb) (hlk : xLk Y.1.cls i Z.1) (hn : a.length = n) (hrm : xRm Y Z) (hr : (r.map fun v => v.category).sum ≤ 8) (hf : cn + (yR Z).cells ≤ (yR Y).cells ∧ sn + (yR Z).slots ≤ (yR Y).slots) (hs : st = a.reverse ++ r) (hd : decode (yB Y) pc = .ok (.invokestatic i, 3)) (hT : xT l G Z a M g Q1)
    (h : ∀ v M' g', Q1 v M' g' → xSz2 g g' (yR Z).cells ∧ xC l G Y (pc + 3) lv (v.toList ++ r) M' g' (cn + (yR Z).cells) (sn + (yR Z).slots) Q) : xC l G Y pc lv st M g cn sn Q := by
  intro p e s m args below meth c hx hz H locs ls hR hS hl
  obtain ⟨z1, z2, z3, z4, z5⟩ := hZ
  have hts := hx.2.2.2.2.2.1
  subst hs
  refine xW_of (fun T hT0 X => ?_)
  have hsz := xsz X hz hx.2.2.2.2.2.2.2.2.1 (by rw [hT0]; exact hR.2.1) (by rw [hT0]; exact hS)
  rw [hT0] at hsz
  have hp : PreS s H (va_Pc (a.map (xcv G)) (xPr G M g)) (a.map (xcv G)) :=
    ⟨xblind, fun U hU hW => ⟨rfl, by rw [hU]; exact hR.moved hW.alike, by rw [hU]; exact Nat.le_trans hx.2.2.2.2.2.2.2.2.1 hS.1, by rw [hU]; exact hsz, hx.2.2.2.2.2.2.2.2.2.warm hW⟩⟩
  have hlenD : ∀ sig, parseMethodDescriptor Z.1.desc = some sig → n = sig.parameters.length := fun sig h => by
    have h2 := z5
    rw [h] at h2
    exact (Option.some.inj h2).symm
  have hrun : va_Run p l e (yR Y) s m args below meth c H locs cn sn (yR Z).cells (yR Z).slots (F0 m pc ls ((a.reverse ++ r).map (xcv G))) (r.map (xcv G)) (xQc G Q1 (a.map (xcv G)).toArray) (xA G) := by
    rcases hlk with hlk | ⟨host, hlk⟩
    · exact va_runS (own := Y.1.cls) (nL := yL Y) (Ts := xtb) ⟨hx.1, hx.2.1, hx.2.2.2.1, hx.2.2.2.2.1, hts⟩ hT ⟨⟨rfl, rfl, hrm.1, hrm.2, xpay hts z2, List.mem_cons_self, hts _ z2, hts _ z1, ⟨z3, z4⟩, hlenD, hts _ hlk⟩, hts _ hst⟩ hp rfl (by rw [List.length_map]; exact hn) hl.1 (by show (a.reverse ++ r).map (xcv G) = _; rw [List.map_append, List.map_reverse]) (lv_room (by rw [xmap_cat]; exact hr)) hd hf
    · exact va_runSN (own := Y.1.cls) (nL := yL Y) (Ts := xtb) ⟨hx.1, hx.2.1, hx.2.2.2.1, hx.2.2.2.2.1, hts⟩ hT ⟨⟨⟨rfl, rfl, hrm.1, hrm.2, xpay hts z2, List.mem_cons_self⟩, hts _ z2, hts _ z1, ⟨z3, z4⟩, hlenD, va_Nw.use rfl (hx.2.2.2.2.2.2.2.2.2 _ hlk)⟩, hts _ hst, trivial⟩ hp rfl (by rw [List.length_map]; exact hn) hl.1 (by show (a.reverse ++ r).map (xcv G) = _; rw [List.map_append, List.map_reverse]) (lv_room (by rw [xmap_cat]; exact hr)) hd hf
  refine xrun hrun hS (fun v M' g' H1 locs1 hq hR1 hS1 => ?_)
  rw [xtoL]
  exact (h v M' g' hq).2 p e s m args below meth c hx (xSz_call hz (h v M' g' hq).1) H1 locs1 ls hR1 hS1 hl
theorem xc_callV (a : List Value) {i n k ci : Nat} (hZ : xZ Z n) (hin : Cond.instanceMethod Z.1 ∈ xtb) (hse : Cond.selects Z.1.cls Z.1 Z.1 ∈ xtb) (hlk : xLk Y.1.cls i Z.1) (hn : a.length = n) (hrm : xRm Y Z) (hr : (r.map fun v => v.category).sum ≤ 8) (hf : cn + (yR Z).cells ≤ (yR Y).cells ∧ sn + (yR Z).slots ≤ (yR Y).slots) (hk : xkd k = ci + 3) (hci : (xcls[ci]?).map (fun q => q.1) = some Z.1.cls) (hg : k < xgn g) (hs : st = a.reverse ++ .ref k :: r) (hd : decode (yB Y) pc = .ok (.invokevirtual i, 3)) (hT : xT l G Z (.ref k :: a) M g Q1)
    (h : ∀ v M' g', Q1 v M' g' → xSz2 g g' (yR Z).cells ∧ xC l G Y (pc + 3) lv (v.toList ++ r) M' g' (cn + (yR Z).cells) (sn + (yR Z).slots) Q) : xC l G Y pc lv st M g cn sn Q := by
  intro p e s m args below meth c hx hz H locs ls hR hS hl
  obtain ⟨z1, z2, z3, z4, z5⟩ := hZ
  have hts := hx.2.2.2.2.2.1
  subst hs
  refine xW_of (fun T hT0 X => ?_)
  have hsz := xsz X hz hx.2.2.2.2.2.2.2.2.1 (by rw [hT0]; exact hR.2.1) (by rw [hT0]; exact hS)
  rw [hT0] at hsz
  obtain ⟨q, hq, hqc⟩ : ∃ q, xcls[ci]? = some q ∧ q.1 = Z.1.cls := by
    cases hq : xcls[ci]? with
    | none => rw [hq] at hci; cases hci
    | some q => rw [hq] at hci; exact ⟨q, rfl, Option.some.inj hci⟩
  have hk96 := xkd_obj hk (xci_lt hq)
  have he := xwl_get (G := G) (M := M) hg
  rw [xent_o hk] at he
  have hcell := va_recv hR.1 hR.2.1 hq he
  rw [hqc] at hcell
  have hp : PreV s H Z.1.cls (gB G + k) (va_Pc ((Value.ref k :: a).map (xcv G)) (xPr G M g)) (a.map (xcv G)) :=
    ⟨xblind, hcell, fun U hU hW => ⟨by rw [List.map_cons]; show _ = (Value.ref (xad G k) :: _).toArray; rw [xad_lt hk96], by rw [hU]; exact hR.moved hW.alike, by rw [hU]; exact Nat.le_trans hx.2.2.2.2.2.2.2.2.1 hS.1, by rw [hU]; exact hsz, hx.2.2.2.2.2.2.2.2.2.warm hW⟩⟩
  have hlenD : ∀ sig, parseMethodDescriptor Z.1.desc = some sig → n = sig.parameters.length := fun sig h => by
    have h2 := z5
    rw [h] at h2
    exact (Option.some.inj h2).symm
  have hstk : (a.reverse ++ .ref k :: r).map (xcv G) = (a.map (xcv G)).reverse ++ .ref (gB G + k) :: r.map (xcv G) := by
    rw [List.map_append, List.map_reverse, List.map_cons]
    show _ ++ Value.ref (xad G k) :: _ = _
    rw [xad_lt hk96]
  have hrun : va_Run p l e (yR Y) s m args below meth c H locs cn sn (yR Z).cells (yR Z).slots (F0 m pc ls ((a.reverse ++ .ref k :: r).map (xcv G))) (r.map (xcv G)) (xQc G Q1 (Value.ref (gB G + k) :: a.map (xcv G)).toArray) (xA G) := by
    rcases hlk with hlk | ⟨host, hlk⟩
    · exact va_runV (own := Y.1.cls) (nL := yL Y) (Ts := xtb) ⟨hx.1, hx.2.1, hx.2.2.2.1, hx.2.2.2.2.1, hts⟩ hT ⟨⟨rfl, rfl, hrm.1, hrm.2, xpay hts z2, List.mem_cons_self, hts _ z2, hts _ z1, ⟨z3, z4⟩, hlenD, hts _ hlk⟩, hts _ hin, hts _ hse⟩ hp rfl (by rw [List.length_map]; exact hn) hl.1 hstk (lv_room (by rw [xmap_cat]; exact hr)) hd hf
    · exact va_runVN (own := Y.1.cls) (nL := yL Y) (Ts := xtb) ⟨hx.1, hx.2.1, hx.2.2.2.1, hx.2.2.2.2.1, hts⟩ hT ⟨⟨⟨rfl, rfl, hrm.1, hrm.2, xpay hts z2, List.mem_cons_self⟩, hts _ z2, hts _ z1, ⟨z3, z4⟩, hlenD, va_Nw.use rfl (hx.2.2.2.2.2.2.2.2.2 _ hlk)⟩, hts _ hin, hts _ hse⟩ hp rfl (by rw [List.length_map]; exact hn) hl.1 hstk (lv_room (by rw [xmap_cat]; exact hr)) hd hf
  refine xrun hrun hS (fun v M' g' H1 locs1 hq hR1 hS1 => ?_)
  rw [xtoL]
  exact (h v M' g' hq).2 p e s m args below meth c hx (xSz_call hz (h v M' g' hq).1) H1 locs1 ls hR1 hS1 hl
theorem xc_callI (a : List Value) {i n k : Nat} (hZ : xZ Z n) (hret : yT Z = none) (hnm : Z.1.name = "<init>") (hin : Cond.instanceMethod Z.1 ∈ xtb) (hlk : xLk Y.1.cls i Z.1) (hn : a.length = n) (hrm : xRm Y Z) (hr : (r.map fun v => v.category).sum ≤ 8) (hf : cn + (yR Z).cells ≤ (yR Y).cells ∧ sn + (yR Z).slots ≤ (yR Y).slots) (hs : st = a.reverse ++ .ref k :: r) (hd : decode (yB Y) pc = .ok (.invokespecial i, 3)) (hT : xT l G Z (.ref k :: a) M g Q1)
    (h : ∀ v M' g', Q1 v M' g' → xSz2 g g' (yR Z).cells ∧ xC l G Y (pc + 3) lv (v.toList ++ r) M' g' (cn + (yR Z).cells) (sn + (yR Z).slots) Q) : xC l G Y pc lv st M g cn sn Q := by
  intro p e s m args below meth c hx hz H locs ls hR hS hl
  obtain ⟨z1, z2, z3, z4, z5⟩ := hZ
  have hts := hx.2.2.2.2.2.1
  subst hs
  refine xW_of (fun T hT0 X => ?_)
  have hsz := xsz X hz hx.2.2.2.2.2.2.2.2.1 (by rw [hT0]; exact hR.2.1) (by rw [hT0]; exact hS)
  rw [hT0] at hsz
  have hp : PreS s H (va_Pc ((Value.ref k :: a).map (xcv G)) (xPr G M g)) (.ref (xad G k) :: a.map (xcv G)) :=
    ⟨xblind, fun U hU hW => ⟨rfl, by rw [hU]; exact hR.moved hW.alike, by rw [hU]; exact Nat.le_trans hx.2.2.2.2.2.2.2.2.1 hS.1, by rw [hU]; exact hsz, hx.2.2.2.2.2.2.2.2.2.warm hW⟩⟩
  have hlenD : ∀ sig, parseMethodDescriptor Z.1.desc = some sig → n = sig.parameters.length := fun sig h => by
    have h2 := z5
    rw [h] at h2
    exact (Option.some.inj h2).symm
  have hstk : (a.reverse ++ .ref k :: r).map (xcv G) = (a.map (xcv G)).reverse ++ .ref (xad G k) :: r.map (xcv G) := by
    rw [List.map_append, List.map_reverse, List.map_cons]
    rfl
  have hc2 : Cond.code Z.1 (yB Z) (yL Z) none ∈ xws Z := by
    have : Cond.code Z.1 (yB Z) (yL Z) (yT Z) ∈ xws Z := List.mem_cons_self
    rw [hret] at this
    exact this
  have hc3 : Cond.code Z.1 (yB Z) (yL Z) none ∈ xtb := by rw [← hret]; exact z2
  have hrun : va_Run p l e (yR Y) s m args below meth c H locs cn sn (yR Z).cells (yR Z).slots (F0 m pc ls ((a.reverse ++ .ref k :: r).map (xcv G))) (r.map (xcv G)) (xQc G Q1 (Value.ref (xad G k) :: a.map (xcv G)).toArray) (xA G) := by
    rcases hlk with hlk | ⟨host, hlk⟩
    · exact va_runI (own := Y.1.cls) (nL := yL Y) (Ts := xtb) ⟨hx.1, hx.2.1, hx.2.2.2.1, hx.2.2.2.2.1, hts⟩ hT ⟨⟨rfl, rfl, hrm.1, hrm.2, xpay hts z2, hc2, hts _ hc3, hts _ z1, ⟨z3, z4⟩, hlenD, hts _ hlk⟩, hnm, hts _ hin⟩ hp rfl (by rw [List.length_map]; exact hn) hl.1 hstk (lv_room (by rw [xmap_cat]; exact hr)) hd hf
    · exact va_runIN (own := Y.1.cls) (nL := yL Y) (Ts := xtb) ⟨hx.1, hx.2.1, hx.2.2.2.1, hx.2.2.2.2.1, hts⟩ hT ⟨⟨⟨rfl, rfl, hrm.1, hrm.2, xpay hts z2, hc2⟩, hts _ hc3, hts _ z1, ⟨z3, z4⟩, hlenD, va_Nw.use rfl (hx.2.2.2.2.2.2.2.2.2 _ hlk)⟩, hnm, hts _ hin⟩ hp rfl (by rw [List.length_map]; exact hn) hl.1 hstk (lv_room (by rw [xmap_cat]; exact hr)) hd hf
  refine xrun hrun hS (fun v M' g' H1 locs1 hq hR1 hS1 => ?_)
  rw [xtoL]
  exact (h v M' g' hq).2 p e s m args below meth c hx (xSz_call hz (h v M' g' hq).1) H1 locs1 ls hR1 hS1 hl
end XK
end
section
/-! Copies of arrays; the making of objects and arrays -/
section XM
variable {l : Launch} {G : xG} {Y Z : xMD} {pc : Nat} {lv : xLv} {st r : List Value} {M : xMe} {g : xGh} {cn sn : Nat} {Q : Option Value → xMe → xGh → Prop}
abbrev xAC (cls : String) (i : Nat) : Prop := Cond.methodLink cls i arraycopyName ∈ xtb ∧ Cond.native arraycopyName ∈ xtb ∧ Cond.static arraycopyName ∈ xtb ∧ Cond.initialized "java/lang/System" ∈ xtb
theorem xnfw : nativeFrameWords "java/lang/System" "arraycopy" 5 = 7 := by decide +kernel
theorem xc_copyi {i k0 k1 : Nat} {sp dp n : Int32} (ha : xAC Y.1.cls i) (hk0 : xkd k0 = 0) (hk1 : xkd k1 = 0) (h0 : k0 < 96) (h1 : k1 < 96) (hg0 : k0 < xgn g) (hg1 : k1 < xgn g) (hsp : ¬ sp < 0) (hdp : ¬ dp < 0) (hn : ¬ n < 0) (hs : sp.toNatClampNeg + n.toNatClampNeg ≤ xtl k0) (hdd : dp.toNatClampNeg + n.toNatClampNeg ≤ xtl k1) (hr : (r.map fun v => v.category).sum ≤ 8) (hrm : 1 ≤ (yR Y).frames ∧ 26 ≤ (yR Y).locals) (hd : decode (yB Y) pc = .ok (.invokestatic i, 3))
    (h : xC l G Y (pc + 3) lv r (xsI M k1 (va_cpy (M.1 k0) (M.1 k1) sp.toNatClampNeg dp.toNatClampNeg n.toNatClampNeg)) g cn sn Q) : xC l G Y pc lv (.int n :: .int dp :: .ref k1 :: .int sp :: .ref k0 :: r) M g cn sn Q := by
  intro p e s m args below meth c hx hz H locs ls hR hS hl
  have hts := hx.2.2.2.2.2.1
  have he0 := xwl_get (G := G) (M := M) hg0
  rw [xent_i hk0] at he0
  have he1 := xwl_get (G := G) (M := M) hg1
  rw [xent_i hk1] at he1
  show W p l e (yR Y) s m args below meth c H locs cn sn _ (F0 m pc ls (.int n :: .int dp :: .ref (xad G k1) :: .int sp :: .ref (xad G k0) :: r.map (xcv G)))
  rw [xad_lt h0, xad_lt h1]
  refine va_copyi hx.1 hx.2.1 (hx.2.2.2.1.trans hl.1.symm) hx.2.2.2.2.1 (hts _ ha.1) (hts _ ha.2.1) (hts _ ha.2.2.1) (hts _ ha.2.2.2) hR.1 hR.2.1 xwl_D hS k0 k1 0 0 he0 he1 rfl rfl rfl hsp hdp hn hs hdd (fun _ _ => rfl) hrm.1 (by rw [xmap_cat, xnfw]; omega) hd (fun H1 locs1 hP1 _ hS1 => ?_)
  rw [xwl_set (M' := xsI M k1 (va_cpy (M.1 k0) (M.1 k1) sp.toNatClampNeg dp.toNatClampNeg n.toNatClampNeg)) (g' := g) rfl rfl (by rw [xent_i hk1, xsI_s]) (fun j hj => xent_sI hj)] at hP1
  exact h p e s m args below meth c hx hz H1 locs1 ls (hR.stored hx.2.2.2.2.2.2.2.2.1 hS hP1 hS1) hS1 hl
theorem xc_copyl {i k0 k1 : Nat} {sp dp n : Int32} (ha : xAC Y.1.cls i) (hk0 : xkd k0 = 1) (hk1 : xkd k1 = 1) (h0 : k0 < 96) (h1 : k1 < 96) (hg0 : k0 < xgn g) (hg1 : k1 < xgn g) (hsp : ¬ sp < 0) (hdp : ¬ dp < 0) (hn : ¬ n < 0) (hs : sp.toNatClampNeg + n.toNatClampNeg ≤ xtl k0) (hdd : dp.toNatClampNeg + n.toNatClampNeg ≤ xtl k1) (hr : (r.map fun v => v.category).sum ≤ 8) (hrm : 1 ≤ (yR Y).frames ∧ 26 ≤ (yR Y).locals) (hd : decode (yB Y) pc = .ok (.invokestatic i, 3))
    (h : xC l G Y (pc + 3) lv r (xsL M k1 (va_cpy (M.2 k0) (M.2 k1) sp.toNatClampNeg dp.toNatClampNeg n.toNatClampNeg)) g cn sn Q) : xC l G Y pc lv (.int n :: .int dp :: .ref k1 :: .int sp :: .ref k0 :: r) M g cn sn Q := by
  intro p e s m args below meth c hx hz H locs ls hR hS hl
  have hts := hx.2.2.2.2.2.1
  have he0 := xwl_get (G := G) (M := M) hg0
  rw [xent_l hk0] at he0
  have he1 := xwl_get (G := G) (M := M) hg1
  rw [xent_l hk1] at he1
  show W p l e (yR Y) s m args below meth c H locs cn sn _ (F0 m pc ls (.int n :: .int dp :: .ref (xad G k1) :: .int sp :: .ref (xad G k0) :: r.map (xcv G)))
  rw [xad_lt h0, xad_lt h1]
  refine va_copyl hx.1 hx.2.1 (hx.2.2.2.1.trans hl.1.symm) hx.2.2.2.2.1 (hts _ ha.1) (hts _ ha.2.1) (hts _ ha.2.2.1) (hts _ ha.2.2.2) hR.1 hR.2.1 xwl_D hS k0 k1 1 1 he0 he1 rfl rfl rfl hsp hdp hn hs hdd (fun _ _ => rfl) hrm.1 (by rw [xmap_cat, xnfw]; omega) hd (fun H1 locs1 hP1 _ hS1 => ?_)
  rw [xwl_set (M' := xsL M k1 (va_cpy (M.2 k0) (M.2 k1) sp.toNatClampNeg dp.toNatClampNeg n.toNatClampNeg)) (g' := g) rfl rfl (by rw [xent_l hk1, xsL_s]) (fun j hj => xent_sL hj)] at hP1
  exact h p e s m args below meth c hx hz H1 locs1 ls (hR.stored hx.2.2.2.2.2.2.2.2.1 hS hP1 hS1) hS1 hl
theorem xwl_grow {G : xG} {M : xMe} {n : Nat} {S : List (Nat × Nat)} : xwl G M (some (n + 1, S)) = xwl G M (some (n, S)) ++ [(gB G + n, xent G M (some (n + 1, S)) n)] := by
  have e : ∀ k, xent G M (some (n + 1, S)) k = xent G M (some (n, S)) k := fun k => rfl
  show (List.range (n + 1)).map _ = (List.range n).map _ ++ _
  rw [List.range_succ, List.map_append]
  rfl
/-- a cell made at the world's end -/
theorem xRp.grow {G : xG} {M : xMe} {n : Nat} {S : List (Nat × Nat)} {s : State} {H H1 : Heap} (h : xRp G M (some (n, S)) s H) (ho : ∀ q, q < gB G + n → H1[q]? = H[q]?) (hs : H.size = gB G + n) (hn : va_at (gD G) xcls (gB G + n, xent G M (some (n + 1, S)) n) H1) : xRp G M (some (n + 1, S)) s H1 := by
  refine h.upd ?_ (fun q h1 _ => ho q (by omega))
  rw [xwl_grow]
  refine (h.2.1.kept (fun k q hk => ?_)).app (fun k q hk => ?_)
  · obtain ⟨hk1, rfl⟩ := xwl_at hk
    have : k < n := hk1
    exact ho _ (by show gB G + k < _; omega)
  · have hz : k < 1 := (List.getElem?_eq_some_iff.mp hk).1
    rw [show k = 0 by omega] at hk
    cases hk
    exact hn
theorem xc_new {i ci n : Nat} {S : List (Nat × Nat)} {q : vw_C} (hcl : Cond.classLink Y.1.cls i q.1 ∈ xtb) (hins : Cond.instantiable q.1 q.2.2 ∈ xtb) (hini : Cond.initialized q.1 ∈ xtb) (hq : xcls[ci]? = some q) (hk : xkd n = ci + 3) (htl : xtl n = q.2.2) (hty : ∀ j, j < q.2.2 → defaultValue ((xnth xcty ci xY0) j) = match xnth (xrf n) j none with | none => .int 0 | some _ => .null) (hM : ∀ j, M.1 n j = 0) (hS0 : ∀ j, xin S n j = false) (hc : cn + 1 ≤ (yR Y).cells) (hs : sn + q.2.2 ≤ (yR Y).slots) (hd : decode (yB Y) pc = .ok (.new i, 3))
    (h : xC l G Y (pc + 3) lv (.ref n :: r) M (some (n + 1, S)) (cn + 1) (sn + q.2.2) Q) : xC l G Y pc lv r M (some (n, S)) cn sn Q := by
  intro p e s m args below meth c hx hz H locs ls hR hS hl
  have hts := hx.2.2.2.2.2.1
  have hn96 := xkd_obj hk (xci_lt hq)
  refine xW_of (fun T hT0 X => ?_)
  have hsz := xsz X hz hx.2.2.2.2.2.2.2.2.1 (by rw [hT0]; exact hR.2.1) (by rw [hT0]; exact hS)
  rw [hT0] at hsz
  have hsz' : H.size = gB G + n := hsz
  have hKn := hR.1.1 ci _ hq
  obtain ⟨o1, o2, o3⟩ := xcls_ok hq
  refine W.newcK hx.1 hx.2.1 hx.2.2.2.2.1 (hts _ hcl) (hts _ hins) (hts _ hini) rfl hd hc hs hKn.2.1 hsz' (fun H1 kC hkC e1 z1 o1' => ?_)
  have hent : va_at (gD G) xcls (gB G + n, xent G M (some (n + 1, S)) n) H1 := by
    rw [xent_o hk]
    refine ⟨q, hq, (u_born (xnth xcty ci xY0) hts o1 hKn hkC e1 o2).to (fun j hj => ?_)⟩
    rw [hty j hj]
    unfold vp_V
    rw [List.getD_eq_getElem?_getD, List.getElem?_map, List.getElem?_range (by rw [htl]; exact hj)]
    show _ = xfv G M (some (n + 1, S)) n j
    unfold xfv
    cases xnth (xrf n) j none with
    | none => simp [hM]
    | some t =>
      have : xis (some (n + 1, S)) n j = false := hS0 j
      simp [this]
  have hk2 := h p e s m args below meth c hx (by show s.heap.size + (cn + 1) = gB G + (n + 1); have : s.heap.size + cn = gB G + n := hz; omega) H1 locs ls (hR.grow o1' hsz' hent) ⟨by have := hS.1; omega, fun x h1 h2 => by rw [o1' x (by have := hS.1; omega)]; exact hS.2.1 x h1 h2, hS.2.2⟩ hl
  have e3 : (Value.ref n :: r).map (xcv G) = .ref (gB G + n) :: r.map (xcv G) := by
    show Value.ref (xad G n) :: _ = _
    rw [xad_lt hn96]
  rw [e3] at hk2
  exact hk2
theorem xc_newa {n : Nat} {S : List (Nat × Nat)} {t : ArrayType} {kd N : Nat} {x : Int32} (ht : (kd = 0 ∧ t = .int) ∨ (kd = 1 ∧ t = .long) ∨ (kd = 2 ∧ t = .boolean)) (hw : Cond.arrayClass (newarray.typeOf t) ∈ xtb) (h96 : n < 96) (hk : xkd n = kd) (htl : xtl n = N) (hx0 : ¬ x < 0) (hN : x.toNatClampNeg = N) (hNb : N ≤ 60000) (hM : ∀ j, M.1 n j = 0) (hM2 : ∀ j, M.2 n j = 0) (hc : cn + 1 ≤ (yR Y).cells) (hs : sn + N ≤ (yR Y).slots) (hd : decode (yB Y) pc = .ok (.newarray t, 2))
    (h : xC l G Y (pc + 2) lv (.ref n :: r) M (some (n + 1, S)) (cn + 1) (sn + N) Q) : xC l G Y pc lv (.int x :: r) M (some (n, S)) cn sn Q := by
  intro p e s m args below meth c hx hz H locs ls hR hS hl
  have hts := hx.2.2.2.2.2.1
  refine xW_of (fun T hT0 X => ?_)
  have hsz := xsz X hz hx.2.2.2.2.2.2.2.2.1 (by rw [hT0]; exact hR.2.1) (by rw [hT0]; exact hS)
  rw [hT0] at hsz
  have hsz' : H.size = gB G + n := hsz
  refine va_newaK hx.1 hx.2.1 (hts _ hw) rfl hd (rest := r.map (xcv G)) rfl hx0 hN ?_ hc hs hsz' (fun H1 cA e1 z1 o1 _ hNm => ?_)
  · rcases ht with ⟨-, rfl⟩ | ⟨-, rfl⟩ | ⟨-, rfl⟩ <;> simp [newarray.typeOf, componentBytes] <;> omega
  have hent : va_at (gD G) xcls (gB G + n, xent G M (some (n + 1, S)) n) H1 := by
    rcases ht with ⟨rfl, rfl⟩ | ⟨rfl, rfl⟩ | ⟨rfl, rfl⟩
    · rw [xent_i hk, htl]
      have hc1 : s.vm.findClass ("[" ++ FieldType.int.toString) = some (gI G) := (hR.1.2 0 _ rfl).2
      cases hNm.symm.trans hc1
      show H1[gB G + n]? = some (vp_cell _ _)
      rw [e1, vp_cell_i]
      congr 2
      funext j
      rw [hM j]
      rfl
    · rw [xent_l hk, htl]
      have hc1 : s.vm.findClass ("[" ++ FieldType.long.toString) = some (gJ G) := (hR.1.2 1 _ rfl).2
      cases hNm.symm.trans hc1
      show H1[gB G + n]? = some (vp_cell _ _)
      rw [e1, vp_cell_l]
      congr 2
      funext j
      rw [hM2 j]
      rfl
    · rw [xent_z hk, htl]
      have hc1 : s.vm.findClass ("[" ++ FieldType.boolean.toString) = some (gZ G) := (hR.1.2 2 _ rfl).2
      cases hNm.symm.trans hc1
      show H1[gB G + n]? = some (vp_cell _ _)
      rw [e1, vp_cell_i]
      congr 2
      funext j
      rw [hM j]
      rfl
  have hk2 := h p e s m args below meth c hx (by show s.heap.size + (cn + 1) = gB G + (n + 1); have : s.heap.size + cn = gB G + n := hz; omega) H1 locs ls (hR.grow o1 hsz' hent) ⟨by have := hS.1; omega, fun x h1 h2 => by rw [o1 x (by have := hS.1; omega)]; exact hS.2.1 x h1 h2, hS.2.2⟩ hl
  have e3 : (Value.ref n :: r).map (xcv G) = .ref (gB G + n) :: r.map (xcv G) := by
    show Value.ref (xad G n) :: _ = _
    rw [xad_lt h96]
  rw [e3] at hk2
  exact hk2
theorem xc_putF {i ci k j t n : Nat} {S : List (Nat × Nat)} {ty : FieldType} (hf : xFL Y.1.cls i ci j) (hk : xkd k = ci + 3) (hg : k < n) (hrf : xnth (xrf k) j none = some t) (ht96 : t < 96) (hty : (xnth xcty ci xY0) j = ty) (hfin : ∀ c, xcls[ci]? = some c → (c.2.1 j).2.2.2 = true ∧ (c.2.1 j).1 = Y.1.cls) (hnm : Y.1.name = "<init>") (hnar : ∀ a : Nat, narrow ty (.ref a) = .ref a ∧ fits ty (.ref a) = true) (hd : decode (yB Y) pc = .ok (.putfield i, 3)) (h : xC l G Y (pc + 3) lv r M (some (n, (k, j) :: S)) cn sn Q) : xC l G Y pc lv (.ref t :: .ref k :: r) M (some (n, S)) cn sn Q := by
  intro p e s m args below meth c hx hz H locs ls hR hS hl
  obtain ⟨q, hq, hj, hw⟩ := hf
  have hci := xci_lt hq
  have hk96 := xkd_obj hk hci
  obtain ⟨q', hq', htl⟩ := xtl_o k hk96 ci hci hk
  cases hq.symm.trans hq'
  have hP := hR.2.1
  have he := xwl_get (G := G) (M := M) (g := some (n, S)) hg
  rw [xent_o hk] at he
  have hk1 := hx.2.2.2.2.2.1
  obtain ⟨o1, o2, o3⟩ := xcls_ok hq
  show W p l e (yR Y) s m args below meth c H locs cn sn _ (F0 m pc ls (.ref (xad G t) :: .ref (xad G k) :: r.map (xcv G)))
  rw [xad_lt hk96, xad_lt ht96]
  refine va_putF hx.1 hx.2.1 hk1 o1 (xnth xcty ci xY0) o2 o3 hx.2.2.2.2.1 hR.1 hP xwl_D hS k he (C := q.1) (T := q.2.1) (N := q.2.2) hq j hj (hk1 _ hw) (fun x h => h) (hfin q hq).1 (hx.2.2.2.2.2.2.2.1.trans hnm) (hfin q hq).2 (ty := ty) (by rw [o2 j hj, hty]) (hnar _).1 (hnar _).2 (by simp; rw [htl]; exact hj) hd (fun H1 locs1 hP1 _ hS1 => ?_)
  have e1 : (xwl G M (some (n, S))).set k (gB G + k, .inr (ci, ((List.range (xtl k)).map (xfv G M (some (n, S)) k)).set j (.ref (gB G + t)))) = xwl G M (some (n, (k, j) :: S)) := by
    refine xwl_set rfl rfl ?_ (fun i hi => ?_)
    · rw [xent_o hk, xmap_set (f' := xfv G M (some (n, (k, j) :: S)) k)]
      · unfold xfv
        rw [hrf]
        simp [xis, xin]
      · intro i hi
        unfold xfv
        cases xnth (xrf k) i none with
        | none => rfl
        | some t' =>
          have h4 : xis (some (n, (k, j) :: S)) k i = xis (some (n, S)) k i := by simp [xis, xin]; intro h; exact absurd h.symm hi
          rw [h4]
    · have e2 : ∀ i', xfv G M (some (n, (k, j) :: S)) i i' = xfv G M (some (n, S)) i i' := by
        intro i'
        unfold xfv
        cases xnth (xrf i) i' none with
        | none => rfl
        | some t' =>
          have h4 : xis (some (n, (k, j) :: S)) i i' = xis (some (n, S)) i i' := by simp [xis, xin]; intro h; exact absurd h.symm hi
          rw [h4]
      have e3 : xfv G M (some (n, (k, j) :: S)) i = xfv G M (some (n, S)) i := funext e2
      unfold xent
      rw [e3]
  rw [e1] at hP1
  exact h p e s m args below meth c hx hz H1 locs1 ls (hR.stored hx.2.2.2.2.2.2.2.2.1 hS hP1 hS1) hS1 hl
theorem xc_obj {i k : Nat} (h1 : Cond.methodLink Y.1.cls i objectInit ∈ xtb) (h2 : Cond.instanceMethod objectInit ∈ xtb) (h3 : Cond.code objectInit ⟨#[0xb1]⟩ 1 none ∈ xtb) (hr : (r.map fun v => v.category).sum ≤ 8) (hrm : 1 ≤ (yR Y).frames ∧ 20 ≤ (yR Y).locals) (hd : decode (yB Y) pc = .ok (.invokespecial i, 3)) (h : xC l G Y (pc + 3) lv r M g cn sn Q) : xC l G Y pc lv (.ref k :: r) M g cn sn Q := by
  intro p e s m args below meth c hx hz H locs ls hR hS hl
  have hts := hx.2.2.2.2.2.1
  exact W.objInit hx.1 hx.2.1 hx.2.2.2.2.1 (hts _ h1) (hts _ h2) (hts _ h3) rfl (hl.1.trans hx.2.2.2.1.symm) (rest := r.map (xcv G)) rfl hd hrm.1 (by show 2 * 0 + _ + 12 ≤ _; rw [xmap_cat]; omega) (h p e s m args below meth c hx hz H locs ls hR hS hl)
/-- all is made -/
theorem xc_seal {S : List (Nat × Nat)} (hS0 : ∀ k, k < 96 → ∀ j, j < 60 → (xnth (xrf k) j none).isSome = true → xin S k j = true) (h : xC l G Y pc lv st M none cn sn Q) : xC l G Y pc lv st M (some (96, S)) cn sn Q := by
  intro p e s m args below meth c hx hz H locs ls hR hS hl
  refine h p e s m args below meth c hx trivial H locs ls ?_ hS hl
  obtain ⟨h1, h2, h3⟩ := hR
  refine ⟨h1, ?_, h3⟩
  have e1 : xwl G M (some (96, S)) = xwl G M none := by
    show (List.range 96).map _ = (List.range 96).map _
    apply List.map_congr_left
    intro k hk
    have hk96 := List.mem_range.mp hk
    have e2 : ∀ n, xkd k = n + 3 → (List.range (xtl k)).map (xfv G M (some (96, S)) k) = (List.range (xtl k)).map (xfv G M none k) := by
      intro n hn
      apply List.map_congr_left
      intro j hj
      have hj1 := List.mem_range.mp hj
      have hj60 : j < 60 := by
        have : ∀ k, k < 96 → xkd k ≥ 3 → xtl k < 60 := by decide +kernel
        have := this k hk96 (by omega)
        omega
      unfold xfv
      cases ht : xnth (xrf k) j none with
      | none => rfl
      | some t =>
        have h4 : xis (some (96, S)) k j = true := hS0 k hk96 j hj60 (by rw [ht]; rfl)
        have h5 : xis none k j = true := rfl
        rw [h4, h5]
    have e3 : xent G M (some (96, S)) k = xent G M none k := by
      match hkd : xkd k with
      | 0 => rw [xent_i hkd, xent_i hkd]
      | 1 => rw [xent_l hkd, xent_l hkd]
      | 2 => rw [xent_z hkd, xent_z hkd]
      | n + 3 => rw [xent_o hkd, xent_o hkd, e2 n hkd]
    show (gB G + k, _) = (gB G + k, _)
    rw [e3]
  rw [← e1]
  exact h2
end XM
end
section
/-! The checked code of a method; many steps of it are sound -/
abbrev xK : Type := List (Nat × Nat × Nat) × List (Nat × Value) × List Nat
def xKok (cls : String) (k : xK) : Prop := (∀ q ∈ k.1, xFL cls q.1 q.2.1 q.2.2) ∧ (∀ q ∈ k.2.1, match q.2 with | .int c => Cond.constant cls q.1 c ∈ xtb | .long c => Cond.constantLong cls q.1 c ∈ xtb | _ => False) ∧ (∀ i ∈ k.2.2, Cond.fieldLink cls i "DataShrinker$OctetSet" "HAVING" "[J" ∈ xtb)
def xlen : Instr → Nat
  | .bipush _ => 2
  | .ldc _ => 2
  | .iload _ => 2
  | .lload _ => 2
  | .aload _ => 2
  | .istore _ => 2
  | .lstore _ => 2
  | .astore _ => 2
  | .newarray _ => 2
  | .sipush _ => 3
  | .ldc_w _ => 3
  | .ldc2_w _ => 3
  | .iinc _ _ => 3
  | .ifCond _ _ => 3
  | .if_icmp _ _ => 3
  | .goto _ => 3
  | .getfield _ => 3
  | .putfield _ => 3
  | .getstatic _ => 3
  | .invokevirtual _ => 3
  | .invokestatic _ => 3
  | .invokespecial _ => 3
  | .new _ => 3
  | _ => 1
def xaux (k : xK) (pc : Nat) (ins : Instr) (a1 a2 : Nat) (v : Value) : Bool := match ins with
  | .iconst n => (match v with | .int c => decide (Int32.ofInt n = c) | _ => false)
  | .bipush n => (match v with | .int c => decide ((Int8.ofInt n).toInt32 = c) | _ => false)
  | .sipush n => (match v with | .int c => decide ((Int16.ofInt n).toInt32 = c) | _ => false)
  | .lconst n => (match v with | .long c => decide (Int64.ofNat (n : Nat) = c) | _ => false)
  | .ldc i => (match v with | .int c => k.2.1.any (fun q => Nat.beq q.1 i && (match q.2 with | .int d => decide (d = c) | _ => false)) | _ => false)
  | .ldc_w i => (match v with | .int c => k.2.1.any (fun q => Nat.beq q.1 i && (match q.2 with | .int d => decide (d = c) | _ => false)) | _ => false)
  | .ldc2_w i => (match v with | .long c => k.2.1.any (fun q => Nat.beq q.1 i && (match q.2 with | .long d => decide (d = c) | _ => false)) | _ => false)
  | .iload i => Nat.beq i a1
  | .lload i => Nat.beq i a1
  | .aload i => Nat.beq i a1
  | .istore i => Nat.beq i a1
  | .lstore i => Nat.beq i a1
  | .astore i => Nat.beq i a1
  | .iload_n i => Nat.beq i a1
  | .lload_n i => Nat.beq i a1
  | .aload_n i => Nat.beq i a1
  | .istore_n i => Nat.beq i a1
  | .lstore_n i => Nat.beq i a1
  | .astore_n i => Nat.beq i a1
  | .iinc i n => Nat.beq i a1 && (match v with | .int c => decide (Int32.ofInt n = c) | _ => false)
  | .ifCond _ o => decide ((pc : Int) + o = (a1 : Int))
  | .if_icmp _ o => decide ((pc : Int) + o = (a1 : Int))
  | .goto o => decide ((pc : Int) + o = (a1 : Int))
  | .tableswitch d lo hi offs => decide (0 ≤ (pc : Int) + d) && (offs.toList.all fun o => decide (0 ≤ (pc : Int) + o)) && decide (hi + 1 = lo + offs.toList.length) && ((xtab lo offs.toList).all fun q => decide ((Int32.ofInt q.1).toInt = q.1))
  | .lookupswitch d ps => decide (0 ≤ (pc : Int) + d) && (ps.toList.all fun q => decide (0 ≤ (pc : Int) + q.2)) && ((ps.toList.zip (ps.toList.drop 1)).all fun (a, next) => a.1 < next.1) && (ps.toList.all fun q => decide ((Int32.ofInt q.1).toInt = q.1))
  | .getfield i => k.1.any (fun q => Nat.beq q.1 i && (Nat.beq q.2.1 a2 && Nat.beq q.2.2 a1))
  | .putfield i => k.1.any (fun q => Nat.beq q.1 i && (Nat.beq q.2.1 a2 && Nat.beq q.2.2 a1)) && (match v with | .int _ => decide ((xnth xcty a2 xY0) a1 = .int) | .long _ => decide ((xnth xcty a2 xY0) a1 = .boolean) | _ => true) && (match v with | .null => true | _ => (match xcls[a2]? with | some c => !(c.2.1 a1).2.2.2 | none => false))
  | .getstatic i => k.2.2.any (fun j => Nat.beq j i)
  | _ => true
def xchk (B : ByteArray) (k : xK) : List xRw → Bool
  | [] => false
  | [_] => true
  | (pc, ins, a1, a2, v) :: (r2 :: rs) => (match ins with
    | .tableswitch .. => (match decode B pc with | .ok (i, _) => decide (i = ins) | .error _ => false)
    | .lookupswitch .. => (match decode B pc with | .ok (i, _) => decide (i = ins) | .error _ => false)
    | _ => decide (decode B pc = .ok (ins, xlen ins)) && Nat.beq r2.1 (pc + xlen ins)) && xaux k pc ins a1 a2 v && xchk B k (r2 :: rs)
/-- a method with its checked code -/
def xOK (Y : xMD) (k : xK) (all : List xRw) : Prop := xKok Y.1.cls k ∧ xchk (yB Y) k all = true
theorem xany {α : Type} {p : α → Bool} {l : List α} (h : l.any p = true) : ∃ q ∈ l, p q = true := List.any_eq_true.mp h
theorem xjmp_hd : ∀ (all : List xRw) (t : Nat) (r : xRw) (rs : List xRw), xjmp all t = r :: rs → r.1 = t
  | [], _, _, _, h => by cases h
  | a :: l, t, r, rs, h => by
    unfold xjmp at h
    cases hb : Nat.beq a.1 t with
    | true =>
      rw [hb] at h
      cases h
      exact Nat.eq_of_beq_eq_true hb
    | false =>
      rw [hb] at h
      exact xjmp_hd l t r rs h
theorem xchk_tl {B : ByteArray} {k : xK} {r r2 : xRw} {rs : List xRw} (h : xchk B k (r :: r2 :: rs) = true) : xchk B k (r2 :: rs) = true := by
  obtain ⟨pc, ins, a1, a2, v⟩ := r
  unfold xchk at h
  rw [Bool.and_eq_true] at h
  exact h.2
theorem xchk_jmp {B : ByteArray} {k : xK} : ∀ (all : List xRw) (t : Nat) (r : xRw) (rs : List xRw), xchk B k all = true → xjmp all t = r :: rs → xchk B k (r :: rs) = true
  | [], _, _, _, _, h => by cases h
  | [a], t, r, rs, hc, h => by
    unfold xjmp at h
    cases hb : Nat.beq a.1 t with
    | true => rw [hb] at h; cases h; exact hc
    | false => rw [hb] at h; cases h
  | a :: a2 :: l, t, r, rs, hc, h => by
    unfold xjmp at h
    cases hb : Nat.beq a.1 t with
    | true => rw [hb] at h; cases h; exact hc
    | false => rw [hb] at h; exact xchk_jmp (a2 :: l) t r rs (xchk_tl hc) h
theorem xchk_dec {B : ByteArray} {k : xK} {pc : Nat} {ins : Instr} {a1 a2 : Nat} {v : Value} {r2 : xRw} {rs : List xRw} (h : xchk B k ((pc, ins, a1, a2, v) :: r2 :: rs) = true) : xaux k pc ins a1 a2 v = true ∧ ((∃ n, decode B pc = .ok (ins, n)) ∧ ((∀ d lo hi o, ins ≠ .tableswitch d lo hi o) → (∀ d o, ins ≠ .lookupswitch d o) → decode B pc = .ok (ins, xlen ins) ∧ r2.1 = pc + xlen ins)) := by
  unfold xchk at h
  rw [Bool.and_eq_true, Bool.and_eq_true] at h
  refine ⟨h.1.2, ?_⟩
  have h1 := h.1.1
  split at h1
  · refine ⟨?_, fun q => absurd rfl (q _ _ _ _)⟩
    split at h1
    · rename_i i n hdec
      rw [decide_eq_true_eq] at h1
      exact ⟨n, by rw [hdec, h1]⟩
    · cases h1
  · refine ⟨?_, fun _ q => absurd rfl (q _ _)⟩
    split at h1
    · rename_i i n hdec
      rw [decide_eq_true_eq] at h1
      exact ⟨n, by rw [hdec, h1]⟩
    · cases h1
  · rw [Bool.and_eq_true, decide_eq_true_eq] at h1
    exact ⟨⟨_, h1.1⟩, fun _ _ => ⟨h1.1, Nat.eq_of_beq_eq_true h1.2⟩⟩
theorem xsw_imp {x : Int32} {k k' : Int → Prop} {d : Int} : ∀ (l : List (Int × Int)), (∀ o, (o = d ∨ ∃ q ∈ l, q.2 = o) → k o → k' o) → xsw x k d l → xsw x k' d l
  | [], h, hs => h d (Or.inl rfl) hs
  | q :: l, h, hs => ⟨fun e => h q.2 (Or.inr ⟨q, List.mem_cons_self, rfl⟩) (hs.1 e), fun e => xsw_imp l (fun o ho => h o (ho.imp id (fun ⟨q', h1, h2⟩ => ⟨q', List.mem_cons_of_mem _ h1, h2⟩))) (hs.2 e)⟩
theorem xtab_in : ∀ (offs : List Int) (lo : Int) (q : Int × Int), q ∈ xtab lo offs → q.2 ∈ offs
  | [], _, _, h => by simp [xtab] at h
  | o :: l, lo, q, h => by
    rcases List.mem_cons.mp h with h | h
    · rw [h]; exact List.mem_cons_self
    · exact List.mem_cons_of_mem _ (xtab_in l (lo + 1) q h)
def xissw : Instr → Bool
  | .tableswitch .. => true
  | .lookupswitch .. => true
  | _ => false
theorem xchk_n {B : ByteArray} {k : xK} {pc : Nat} {ins : Instr} {a1 a2 : Nat} {v : Value} {r2 : xRw} {rs : List xRw} (h : xchk B k ((pc, ins, a1, a2, v) :: r2 :: rs) = true) (hs : xissw ins = false) : decode B pc = .ok (ins, xlen ins) ∧ r2.1 = pc + xlen ins := (xchk_dec h).2.2 (fun d lo hi o e => by rw [e] at hs; cases hs) (fun d o e => by rw [e] at hs; cases hs)
theorem xcst {cls : String} {k : xK} (hk : xKok cls k) {i : Nat} {c : Int32} (h : (k.2.1.any (fun q => Nat.beq q.1 i && (match q.2 with | .int d => decide (d = c) | _ => false))) = true) : Cond.constant cls i c ∈ xtb := by
  obtain ⟨⟨j, w⟩, hq, hp⟩ := xany h
  have h1 := hk.2.1 _ hq
  rw [Bool.and_eq_true] at hp
  have hj : j = i := Nat.eq_of_beq_eq_true hp.1
  subst hj
  cases w with
  | int d =>
    have hd : d = c := of_decide_eq_true hp.2
    subst hd
    exact h1
  | _ => cases hp.2
theorem xcsL {cls : String} {k : xK} (hk : xKok cls k) {i : Nat} {c : Int64} (h : (k.2.1.any (fun q => Nat.beq q.1 i && (match q.2 with | .long d => decide (d = c) | _ => false))) = true) : Cond.constantLong cls i c ∈ xtb := by
  obtain ⟨⟨j, w⟩, hq, hp⟩ := xany h
  have h1 := hk.2.1 _ hq
  rw [Bool.and_eq_true] at hp
  have hj : j = i := Nat.eq_of_beq_eq_true hp.1
  subst hj
  cases w with
  | long d =>
    have hd : d = c := of_decide_eq_true hp.2
    subst hd
    exact h1
  | _ => cases hp.2
theorem xfld {cls : String} {k : xK} (hk : xKok cls k) {i a1 a2 : Nat} (h : (k.1.any (fun q => Nat.beq q.1 i && (Nat.beq q.2.1 a2 && Nat.beq q.2.2 a1))) = true) : xFL cls i a2 a1 := by
  obtain ⟨⟨j, u, w⟩, hq, hp⟩ := xany h
  have h1 := hk.1 _ hq
  rw [Bool.and_eq_true, Bool.and_eq_true] at hp
  have e1 : j = i := Nat.eq_of_beq_eq_true hp.1
  have e2 : u = a2 := Nat.eq_of_beq_eq_true hp.2.1
  have e3 : w = a1 := Nat.eq_of_beq_eq_true hp.2.2
  subst e1; subst e2; subst e3
  exact h1
theorem xlt96 {k : Nat} (h : k < 98) (h1 : ¬ k = 96) (h2 : ¬ k = 97) : k < 96 := by omega
theorem xblt {a b : Nat} (h : Nat.blt a b = true) : a < b := Nat.blt_eq.mp h
theorem xkd_i {k : Nat} (h : xkd k = 0) (hn : Nat.beq k 96 = false) : k < 96 := by
  have h1 := xkd_lt (k := k) (by omega)
  have h2 : k ≠ 96 := fun e => by subst e; cases hn
  have h3 : k ≠ 97 := fun e => by subst e; rw [xkd_97] at h; cases h
  omega
theorem xkd_l {k : Nat} (h : xkd k = 1) (hn : Nat.beq k 97 = false) : k < 96 := by
  have h1 := xkd_lt (k := k) (by omega)
  have h2 : k ≠ 97 := fun e => by subst e; cases hn
  have h3 : k ≠ 96 := fun e => by subst e; rw [xkd_96] at h; cases h
  omega
theorem xkd_z {k : Nat} (h : xkd k = 2) : k < 96 := by
  have h1 := xkd_lt (k := k) (by omega)
  have h2 : k ≠ 97 := fun e => by subst e; rw [xkd_97] at h; cases h
  have h3 : k ≠ 96 := fun e => by subst e; rw [xkd_96] at h; cases h
  omega
set_option maxHeartbeats 4000000 in
/-- one step, all made -/
theorem xstp_ok {l : Launch} {G : xG} {Y : xMD} {k : xK} {all : List xRw} {pc : Nat} {ins : Instr} {a1 a2 : Nat} {v : Value} {r2 : xRw} {rs : List xRw} {lv : xLv} {st : List Value} {M : xMe} {cn sn : Nat} {Q : Option Value → xMe → xGh → Prop} {K : List xRw → xLv → List Value → xMe → Prop}
    (hk : xKok Y.1.cls k) (hc : xchk (yB Y) k ((pc, ins, a1, a2, v) :: r2 :: rs) = true) (hs : xstp G all pc ins a1 a2 v (yL Y) (r2 :: rs) lv st M K)
    (hn : ∀ lv' st' M', K (r2 :: rs) lv' st' M' → xC l G Y r2.1 lv' st' M' none cn sn Q) (hj : ∀ t lv' st' M', K (xjmp all t) lv' st' M' → xC l G Y t lv' st' M' none cn sn Q) : xC l G Y pc lv st M none cn sn Q := by
  have hx := (xchk_dec hc).1
  unfold xstp at hs
  unfold xaux at hx
  cases ins with
  | iadd =>
    obtain ⟨hd, e⟩ := xchk_n hc rfl
    rw [e] at hn
    dsimp only at hs hx
    split at hs
    · exact xc_iadd hd (hn _ _ _ hs)
    · exact hs.elim
  | isub =>
    obtain ⟨hd, e⟩ := xchk_n hc rfl
    rw [e] at hn
    dsimp only at hs hx
    split at hs
    · exact xc_isub hd (hn _ _ _ hs)
    · exact hs.elim
  | imul =>
    obtain ⟨hd, e⟩ := xchk_n hc rfl
    rw [e] at hn
    dsimp only at hs hx
    split at hs
    · exact xc_imul hd (hn _ _ _ hs)
    · exact hs.elim
  | iand =>
    obtain ⟨hd, e⟩ := xchk_n hc rfl
    rw [e] at hn
    dsimp only at hs hx
    split at hs
    · exact xc_iand hd (hn _ _ _ hs)
    · exact hs.elim
  | ior =>
    obtain ⟨hd, e⟩ := xchk_n hc rfl
    rw [e] at hn
    dsimp only at hs hx
    split at hs
    · exact xc_ior hd (hn _ _ _ hs)
    · exact hs.elim
  | ixor =>
    obtain ⟨hd, e⟩ := xchk_n hc rfl
    rw [e] at hn
    dsimp only at hs hx
    split at hs
    · exact xc_ixor hd (hn _ _ _ hs)
    · exact hs.elim
  | ineg =>
    obtain ⟨hd, e⟩ := xchk_n hc rfl
    rw [e] at hn
    dsimp only at hs hx
    split at hs
    · exact xc_ineg hd (hn _ _ _ hs)
    · exact hs.elim
  | ishl =>
    obtain ⟨hd, e⟩ := xchk_n hc rfl
    rw [e] at hn
    dsimp only at hs hx
    split at hs
    · exact xc_ishl hd (hn _ _ _ hs)
    · exact hs.elim
  | ishr =>
    obtain ⟨hd, e⟩ := xchk_n hc rfl
    rw [e] at hn
    dsimp only at hs hx
    split at hs
    · exact xc_ishr hd (hn _ _ _ hs)
    · exact hs.elim
  | iushr =>
    obtain ⟨hd, e⟩ := xchk_n hc rfl
    rw [e] at hn
    dsimp only at hs hx
    split at hs
    · exact xc_iushr hd (hn _ _ _ hs)
    · exact hs.elim
  | ladd =>
    obtain ⟨hd, e⟩ := xchk_n hc rfl
    rw [e] at hn
    dsimp only at hs hx
    split at hs
    · exact xc_ladd hd (hn _ _ _ hs)
    · exact hs.elim
  | lsub =>
    obtain ⟨hd, e⟩ := xchk_n hc rfl
    rw [e] at hn
    dsimp only at hs hx
    split at hs
    · exact xc_lsub hd (hn _ _ _ hs)
    · exact hs.elim
  | land =>
    obtain ⟨hd, e⟩ := xchk_n hc rfl
    rw [e] at hn
    dsimp only at hs hx
    split at hs
    · exact xc_land hd (hn _ _ _ hs)
    · exact hs.elim
  | lor =>
    obtain ⟨hd, e⟩ := xchk_n hc rfl
    rw [e] at hn
    dsimp only at hs hx
    split at hs
    · exact xc_lor hd (hn _ _ _ hs)
    · exact hs.elim
  | lxor =>
    obtain ⟨hd, e⟩ := xchk_n hc rfl
    rw [e] at hn
    dsimp only at hs hx
    split at hs
    · exact xc_lxor hd (hn _ _ _ hs)
    · exact hs.elim
  | lshl =>
    obtain ⟨hd, e⟩ := xchk_n hc rfl
    rw [e] at hn
    dsimp only at hs hx
    split at hs
    · exact xc_lshl hd (hn _ _ _ hs)
    · exact hs.elim
  | lshr =>
    obtain ⟨hd, e⟩ := xchk_n hc rfl
    rw [e] at hn
    dsimp only at hs hx
    split at hs
    · exact xc_lshr hd (hn _ _ _ hs)
    · exact hs.elim
  | lushr =>
    obtain ⟨hd, e⟩ := xchk_n hc rfl
    rw [e] at hn
    dsimp only at hs hx
    split at hs
    · exact xc_lushr hd (hn _ _ _ hs)
    · exact hs.elim
  | lcmp =>
    obtain ⟨hd, e⟩ := xchk_n hc rfl
    rw [e] at hn
    dsimp only at hs hx
    split at hs
    · exact xc_lcmp hd (hn _ _ _ hs)
    · exact hs.elim
  | i2l =>
    obtain ⟨hd, e⟩ := xchk_n hc rfl
    rw [e] at hn
    dsimp only at hs hx
    split at hs
    · exact xc_i2l hd (hn _ _ _ hs)
    · exact hs.elim
  | l2i =>
    obtain ⟨hd, e⟩ := xchk_n hc rfl
    rw [e] at hn
    dsimp only at hs hx
    split at hs
    · exact xc_l2i hd (hn _ _ _ hs)
    · exact hs.elim
  | idiv =>
    obtain ⟨hd, e⟩ := xchk_n hc rfl
    rw [e] at hn
    dsimp only at hs hx
    split at hs
    · exact xc_idiv hs.1 hd (hn _ _ _ hs.2)
    · exact hs.elim
  | irem =>
    obtain ⟨hd, e⟩ := xchk_n hc rfl
    rw [e] at hn
    dsimp only at hs hx
    split at hs
    · exact xc_irem hs.1 hd (hn _ _ _ hs.2)
    · exact hs.elim
  | dup =>
    obtain ⟨hd, e⟩ := xchk_n hc rfl
    rw [e] at hn
    dsimp only at hs hx
    split at hs
    · exact xc_dup rfl hd (hn _ _ _ hs)
    · exact xc_dup rfl hd (hn _ _ _ hs)
    · exact hs.elim
  | dup2 =>
    obtain ⟨hd, e⟩ := xchk_n hc rfl
    rw [e] at hn
    dsimp only at hs hx
    split at hs
    · exact xc_dup2a rfl rfl hd (hn _ _ _ hs)
    · exact xc_dup2b rfl hd (hn _ _ _ hs)
    · exact hs.elim
  | pop =>
    obtain ⟨hd, e⟩ := xchk_n hc rfl
    rw [e] at hn
    dsimp only at hs hx
    split at hs
    · exact xc_pop rfl hd (hn _ _ _ hs)
    · exact hs.elim
  | iconst n =>
    obtain ⟨hd, e⟩ := xchk_n hc rfl
    rw [e] at hn
    dsimp only at hs hx
    split at hx
    · exact xc_iconst (of_decide_eq_true hx) hd (hn _ _ _ hs)
    · cases hx
  | bipush n =>
    obtain ⟨hd, e⟩ := xchk_n hc rfl
    rw [e] at hn
    dsimp only at hs hx
    split at hx
    · exact xc_bipush (of_decide_eq_true hx) hd (hn _ _ _ hs)
    · cases hx
  | sipush n =>
    obtain ⟨hd, e⟩ := xchk_n hc rfl
    rw [e] at hn
    dsimp only at hs hx
    split at hx
    · exact xc_sipush (of_decide_eq_true hx) hd (hn _ _ _ hs)
    · cases hx
  | lconst n =>
    obtain ⟨hd, e⟩ := xchk_n hc rfl
    rw [e] at hn
    dsimp only at hs hx
    split at hx
    · exact xc_lconst (of_decide_eq_true hx) hd (hn _ _ _ hs)
    · cases hx
  | ldc i =>
    obtain ⟨hd, e⟩ := xchk_n hc rfl
    rw [e] at hn
    dsimp only at hs hx
    split at hx
    · exact xc_ldc (xcst hk hx) hd (hn _ _ _ hs)
    · cases hx
  | ldc_w i =>
    obtain ⟨hd, e⟩ := xchk_n hc rfl
    rw [e] at hn
    dsimp only at hs hx
    split at hx
    · exact xc_ldcw (xcst hk hx) hd (hn _ _ _ hs)
    · cases hx
  | ldc2_w i =>
    obtain ⟨hd, e⟩ := xchk_n hc rfl
    rw [e] at hn
    dsimp only at hs hx
    split at hx
    · exact xc_ldc2 (xcsL hk hx) hd (hn _ _ _ hs)
    · cases hx
  | iload i =>
    obtain ⟨hd, e⟩ := xchk_n hc rfl
    rw [e] at hn
    dsimp only at hs hx
    have ha := Nat.eq_of_beq_eq_true hx
    subst ha
    split at hs
    · rename_i x hl
      exact xc_iload hl hd (hn _ _ _ hs)
    · exact hs.elim
  | iload_n i =>
    obtain ⟨hd, e⟩ := xchk_n hc rfl
    rw [e] at hn
    dsimp only at hs hx
    have ha := Nat.eq_of_beq_eq_true hx
    split at hs
    · rename_i x hl
      exact xc_iload_n ha hl hd (hn _ _ _ hs)
    · exact hs.elim
  | istore i =>
    obtain ⟨hd, e⟩ := xchk_n hc rfl
    rw [e] at hn
    dsimp only at hs hx
    have ha := Nat.eq_of_beq_eq_true hx
    subst ha
    split at hs
    · rename_i hb
      exact xc_istore (xblt hb) hd (hn _ _ _ ((xp1_eq _ _ _ _).mp hs))
    · exact hs.elim
  | istore_n i =>
    obtain ⟨hd, e⟩ := xchk_n hc rfl
    rw [e] at hn
    dsimp only at hs hx
    have ha := Nat.eq_of_beq_eq_true hx
    split at hs
    · rename_i hb
      exact xc_istore_n ha (xblt hb) hd (hn _ _ _ ((xp1_eq _ _ _ _).mp hs))
    · exact hs.elim
  | lload i =>
    obtain ⟨hd, e⟩ := xchk_n hc rfl
    rw [e] at hn
    dsimp only at hs hx
    have ha := Nat.eq_of_beq_eq_true hx
    subst ha
    split at hs
    · rename_i x hl
      exact xc_lload hl hd (hn _ _ _ hs)
    · exact hs.elim
  | lload_n i =>
    obtain ⟨hd, e⟩ := xchk_n hc rfl
    rw [e] at hn
    dsimp only at hs hx
    have ha := Nat.eq_of_beq_eq_true hx
    split at hs
    · rename_i x hl
      exact xc_lload_n ha hl hd (hn _ _ _ hs)
    · exact hs.elim
  | lstore i =>
    obtain ⟨hd, e⟩ := xchk_n hc rfl
    rw [e] at hn
    dsimp only at hs hx
    have ha := Nat.eq_of_beq_eq_true hx
    subst ha
    split at hs
    · rename_i hb
      exact xc_lstore (xblt hb) hd (hn _ _ _ ((xp2_eq _ _ _ _).mp hs))
    · exact hs.elim
  | lstore_n i =>
    obtain ⟨hd, e⟩ := xchk_n hc rfl
    rw [e] at hn
    dsimp only at hs hx
    have ha := Nat.eq_of_beq_eq_true hx
    split at hs
    · rename_i hb
      exact xc_lstore_n ha (xblt hb) hd (hn _ _ _ ((xp2_eq _ _ _ _).mp hs))
    · exact hs.elim
  | aload i =>
    obtain ⟨hd, e⟩ := xchk_n hc rfl
    rw [e] at hn
    dsimp only at hs hx
    have ha := Nat.eq_of_beq_eq_true hx
    subst ha
    split at hs
    · rename_i x hl
      exact xc_aload hl hd (hn _ _ _ hs)
    · exact hs.elim
  | aload_n i =>
    obtain ⟨hd, e⟩ := xchk_n hc rfl
    rw [e] at hn
    dsimp only at hs hx
    have ha := Nat.eq_of_beq_eq_true hx
    split at hs
    · rename_i x hl
      exact xc_aload_n ha hl hd (hn _ _ _ hs)
    · exact hs.elim
  | astore i =>
    obtain ⟨hd, e⟩ := xchk_n hc rfl
    rw [e] at hn
    dsimp only at hs hx
    have ha := Nat.eq_of_beq_eq_true hx
    subst ha
    split at hs
    · rename_i hb
      exact xc_astore (xblt hb) hd (hn _ _ _ ((xp1_eq _ _ _ _).mp hs))
    · exact hs.elim
  | astore_n i =>
    obtain ⟨hd, e⟩ := xchk_n hc rfl
    rw [e] at hn
    dsimp only at hs hx
    have ha := Nat.eq_of_beq_eq_true hx
    split at hs
    · rename_i hb
      exact xc_astore_n ha (xblt hb) hd (hn _ _ _ ((xp1_eq _ _ _ _).mp hs))
    · exact hs.elim
  | iinc i n =>
    obtain ⟨hd, e⟩ := xchk_n hc rfl
    rw [e] at hn
    dsimp only at hs hx
    rw [Bool.and_eq_true] at hx
    have ha := Nat.eq_of_beq_eq_true hx.1
    subst ha
    have hx2 := hx.2
    split at hs
    · rename_i x c hl
      exact xc_iinc hl (of_decide_eq_true hx2) hd (hn _ _ _ ((xp1_eq _ _ _ _).mp hs))
    · exact hs.elim
  | goto o =>
    obtain ⟨hd, e⟩ := xchk_n hc rfl
    rw [e] at hn
    dsimp only at hs hx
    exact xc_goto (of_decide_eq_true hx) hd (hj _ _ _ _ hs)
  | ifCond c o =>
    obtain ⟨hd, e⟩ := xchk_n hc rfl
    rw [e] at hn
    dsimp only at hs hx
    split at hs
    · cases c with
      | eq => exact xc_if_eq hd (of_decide_eq_true hx) (fun z => hj _ _ _ _ (hs.1 z)) (fun z => hn _ _ _ (hs.2 z))
      | ne => exact xc_if_ne hd (of_decide_eq_true hx) (fun z => hj _ _ _ _ (hs.1 z)) (fun z => hn _ _ _ (hs.2 z))
      | lt => exact xc_if_lt hd (of_decide_eq_true hx) (fun z => hj _ _ _ _ (hs.1 z)) (fun z => hn _ _ _ (hs.2 z))
      | ge => exact xc_if_ge hd (of_decide_eq_true hx) (fun z => hj _ _ _ _ (hs.1 z)) (fun z => hn _ _ _ (hs.2 z))
      | gt => exact xc_if_gt hd (of_decide_eq_true hx) (fun z => hj _ _ _ _ (hs.1 z)) (fun z => hn _ _ _ (hs.2 z))
      | le => exact xc_if_le hd (of_decide_eq_true hx) (fun z => hj _ _ _ _ (hs.1 z)) (fun z => hn _ _ _ (hs.2 z))
    · exact hs.elim
  | if_icmp c o =>
    obtain ⟨hd, e⟩ := xchk_n hc rfl
    rw [e] at hn
    dsimp only at hs hx
    split at hs
    · cases c with
      | eq => exact xc_cmp_eq hd (of_decide_eq_true hx) (fun z => hj _ _ _ _ (hs.1 z)) (fun z => hn _ _ _ (hs.2 z))
      | ne => exact xc_cmp_ne hd (of_decide_eq_true hx) (fun z => hj _ _ _ _ (hs.1 z)) (fun z => hn _ _ _ (hs.2 z))
      | lt => exact xc_cmp_lt hd (of_decide_eq_true hx) (fun z => hj _ _ _ _ (hs.1 z)) (fun z => hn _ _ _ (hs.2 z))
      | ge => exact xc_cmp_ge hd (of_decide_eq_true hx) (fun z => hj _ _ _ _ (hs.1 z)) (fun z => hn _ _ _ (hs.2 z))
      | gt => exact xc_cmp_gt hd (of_decide_eq_true hx) (fun z => hj _ _ _ _ (hs.1 z)) (fun z => hn _ _ _ (hs.2 z))
      | le => exact xc_cmp_le hd (of_decide_eq_true hx) (fun z => hj _ _ _ _ (hs.1 z)) (fun z => hn _ _ _ (hs.2 z))
    · exact hs.elim
  | tableswitch d lo hi offs =>
    dsimp only at hs hx
    obtain ⟨len, hd⟩ := (xchk_dec hc).2.1
    rw [Bool.and_eq_true, Bool.and_eq_true, Bool.and_eq_true] at hx
    obtain ⟨⟨⟨h1, h2⟩, h3⟩, h4⟩ := hx
    split at hs
    · refine xc_table hd (of_decide_eq_true h3) h4 (xsw_imp _ (fun o ho hK => ?_) hs)
      have hp : 0 ≤ (pc : Int) + o := by
        rcases ho with rfl | ⟨q, hq, rfl⟩
        · exact of_decide_eq_true h1
        · exact of_decide_eq_true (List.all_eq_true.mp h2 _ (xtab_in _ _ _ hq))
      exact ⟨((pc : Int) + o).toNat, by omega, hj _ _ _ _ hK⟩
    · exact hs.elim
  | lookupswitch d ps =>
    dsimp only at hs hx
    obtain ⟨len, hd⟩ := (xchk_dec hc).2.1
    rw [Bool.and_eq_true, Bool.and_eq_true, Bool.and_eq_true] at hx
    obtain ⟨⟨⟨h1, h2⟩, h3⟩, h4⟩ := hx
    split at hs
    · refine xc_lookup hd h3 h4 (xsw_imp _ (fun o ho hK => ?_) hs)
      have hp : 0 ≤ (pc : Int) + o := by
        rcases ho with rfl | ⟨q, hq, rfl⟩
        · exact of_decide_eq_true h1
        · exact of_decide_eq_true (List.all_eq_true.mp h2 _ hq)
      exact ⟨((pc : Int) + o).toNat, by omega, hj _ _ _ _ hK⟩
    · exact hs.elim
  | getfield i =>
    obtain ⟨hd, e⟩ := xchk_n hc rfl
    rw [e] at hn
    dsimp only at hs hx
    have hf := xfld hk hx
    split at hs
    · split at hs
      · rename_i h1 h2
        have hkd := Nat.eq_of_beq_eq_true h1
        exact xc_get hf hkd (xkd_obj hkd (xci_lt hf.choose_spec.1)) (by rw [h2]) rfl hd (hn _ _ _ hs)
      · rename_i h1 h2
        have hkd := Nat.eq_of_beq_eq_true h1
        exact xc_get hf hkd (xkd_obj hkd (xci_lt hf.choose_spec.1)) (by rw [h2]) rfl hd (hn _ _ _ hs)
      · exact hs.elim
    · exact hs.elim
  | putfield i =>
    obtain ⟨hd, e⟩ := xchk_n hc rfl
    rw [e] at hn
    dsimp only at hs hx
    rw [Bool.and_eq_true, Bool.and_eq_true] at hx
    obtain ⟨⟨h3, h4⟩, h5⟩ := hx
    have hf := xfld hk h3
    split at hs
    · split at hs
      · rename_i h1 h2
        have hkd := Nat.eq_of_beq_eq_true h1
        dsimp only at h4 h5
        exact xc_put hf hkd (xkd_obj hkd (xci_lt hf.choose_spec.1)) h2 (of_decide_eq_true h4) (fun c hcc => by rw [hcc] at h5; simpa using h5) rfl rfl hd (hn _ _ _ hs)
      · rename_i h1 h2
        have hkd := Nat.eq_of_beq_eq_true h1
        dsimp only at h4 h5
        exact xc_put hf hkd (xkd_obj hkd (xci_lt hf.choose_spec.1)) h2 (of_decide_eq_true h4) (fun c hcc => by rw [hcc] at h5; simpa using h5) (by rcases hs.1 with rfl | rfl <;> rfl) (by rcases hs.1 with rfl | rfl <;> rfl) hd (hn _ _ _ hs.2)
      · exact hs.elim
    · exact hs.elim
  | getstatic i =>
    obtain ⟨hd, e⟩ := xchk_n hc rfl
    rw [e] at hn
    dsimp only at hs hx
    obtain ⟨j, hj1, hj2⟩ := xany hx
    have e2 := Nat.eq_of_beq_eq_true hj2
    subst e2
    exact xc_gets (hk.2.2 _ hj1) hd (hn _ _ _ hs)
  | arraylength =>
    obtain ⟨hd, e⟩ := xchk_n hc rfl
    rw [e] at hn
    dsimp only at hs hx
    split at hs
    · rename_i kk r
      split at hs
      · rename_i hb
        have hlt := xblt hb
        by_cases h96 : (kk : Nat) = 96
        · subst h96
          exact xc_slen hd (hn _ _ _ hs)
        · by_cases h97 : (kk : Nat) = 97
          · subst h97
            exact xc_hlen hd (hn _ _ _ hs)
          · have h98 : (kk : Nat) < 98 := xkd_lt (k := kk) (by omega)
            have h1 : (kk : Nat) < 96 := xlt96 h98 h96 h97
            have e2 : xln G kk = xtl kk := by
              unfold xln
              have : Nat.beq kk 96 = false := by
                cases hq : Nat.beq kk 96 with
                | true => exact absurd (Nat.eq_of_beq_eq_true hq) h96
                | false => rfl
              rw [this]
            rw [e2] at hs
            exact xc_alen hlt h1 h1 hd (hn _ _ _ hs)
      · exact hs.elim
    · exact hs.elim
  | iaload =>
    obtain ⟨hd, e⟩ := xchk_n hc rfl
    rw [e] at hn
    dsimp only at hs hx
    split at hs
    · split at hs
      · rename_i h1 h2
        have e2 := Nat.eq_of_beq_eq_true h2
        subst e2
        exact xc_sld hs.1 hd (hn _ _ _ hs.2)
      · rename_i h1 h2
        have hkd := Nat.eq_of_beq_eq_true h1
        have hlt := xkd_i hkd h2
        exact xc_iald hkd hlt hlt hs.1 hd (hn _ _ _ hs.2)
      · exact hs.elim
    · exact hs.elim
  | laload =>
    obtain ⟨hd, e⟩ := xchk_n hc rfl
    rw [e] at hn
    dsimp only at hs hx
    split at hs
    · split at hs
      · rename_i h1 h2
        have e2 := Nat.eq_of_beq_eq_true h2
        subst e2
        exact xc_hld hs.1 hd (hn _ _ _ hs.2)
      · rename_i h1 h2
        have hkd := Nat.eq_of_beq_eq_true h1
        have hlt := xkd_l hkd h2
        exact xc_lald hkd hlt hlt hs.1 hd (hn _ _ _ hs.2)
      · exact hs.elim
    · exact hs.elim
  | baload =>
    obtain ⟨hd, e⟩ := xchk_n hc rfl
    rw [e] at hn
    dsimp only at hs hx
    split at hs
    · split at hs
      · rename_i h1
        have hkd := Nat.eq_of_beq_eq_true h1
        have hlt := xkd_z hkd
        exact xc_zald hkd hlt hlt hs.1 hd (hn _ _ _ hs.2)
      · exact hs.elim
    · exact hs.elim
  | iastore =>
    obtain ⟨hd, e⟩ := xchk_n hc rfl
    rw [e] at hn
    dsimp only at hs hx
    split at hs
    · split at hs
      · rename_i h1 h2
        have hkd := Nat.eq_of_beq_eq_true h1
        exact xc_iast hkd (xblt h2) (xblt h2) hs.1 hd (hn _ _ _ hs.2)
      · exact hs.elim
    · exact hs.elim
  | lastore =>
    obtain ⟨hd, e⟩ := xchk_n hc rfl
    rw [e] at hn
    dsimp only at hs hx
    split at hs
    · split at hs
      · rename_i h1 h2
        have hkd := Nat.eq_of_beq_eq_true h1
        exact xc_last hkd (xblt h2) (xblt h2) hs.1 hd (hn _ _ _ hs.2)
      · exact hs.elim
    · exact hs.elim
  | bastore =>
    obtain ⟨hd, e⟩ := xchk_n hc rfl
    rw [e] at hn
    dsimp only at hs hx
    split at hs
    · split at hs
      · rename_i h1 h2
        have hkd := Nat.eq_of_beq_eq_true h1
        exact xc_zast hkd (xblt h2) (xblt h2) hs.1 hs.2.1 hd (hn _ _ _ hs.2.2)
      · exact hs.elim
    · exact hs.elim
  | _ => exact hs.elim
/-- many steps: what holds where they stop is enough -/
theorem xwp_ok {l : Launch} {G : xG} {Y : xMD} {k : xK} {all : List xRw} (ok : xOK Y k all) {stops : List Nat} {cn sn : Nat} {Q : Option Value → xMe → xGh → Prop} : ∀ (n : Nat) (rs : List xRw) (lv : xLv) (st : List Value) (M : xMe) (K : Nat → xLv → List Value → xMe → Prop), xchk (yB Y) k rs = true → (∀ pc lv st M, K pc lv st M → xC l G Y pc lv st M none cn sn Q) → xwp G (yL Y) all stops n rs lv st M K → ∃ r t, rs = r :: t ∧ xC l G Y r.1 lv st M none cn sn Q
  | 0, [], _, _, _, _, _, _, h => h.elim
  | n + 1, [], _, _, _, _, _, _, h => h.elim
  | 0, [_], _, _, _, _, _, _, h => h.elim
  | n + 1, [_], _, _, _, _, _, _, h => h.elim
  | 0, r :: r2 :: rs, lv, st, M, K, _, hK, h => ⟨r, r2 :: rs, rfl, hK _ _ _ _ h⟩
  | n + 1, (pc, ins, a1, a2, v) :: r2 :: rs, lv, st, M, K, hc, hK, h => by
    refine ⟨_, _, rfl, ?_⟩
    unfold xwp at h
    split at h
    · exact hK _ _ _ _ h
    · refine xstp_ok ok.1 hc h (fun lv' st' M' hh => ?_) (fun t lv' st' M' hh => ?_)
      · obtain ⟨pc2, q2⟩ := r2
        dsimp only at hh
        split at hh
        · exact hK _ _ _ _ hh
        · obtain ⟨r, t, e, hC⟩ := xwp_ok ok n _ _ _ _ _ (xchk_tl hc) hK hh
          cases e
          exact hC
      · cases hjm : xjmp all t with
        | nil => rw [hjm] at hh; exact hh.elim
        | cons r rs' =>
          rw [hjm] at hh
          have e1 := xjmp_hd _ _ _ _ hjm
          obtain ⟨pc2, q2⟩ := r
          dsimp only at hh e1
          subst e1
          split at hh
          · exact hK _ _ _ _ hh
          · obtain ⟨r, t, e, hC⟩ := xwp_ok ok n _ _ _ _ _ (xchk_jmp _ _ _ _ ok.2 hjm) hK hh
            cases e
            exact hC
end
