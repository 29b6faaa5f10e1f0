section
-- ===== PART A: goes FIRST, ahead of the names: the tables' words, and 'selects' of the private methods out of them =====
/-- a private method of a class that the tables say can be made, by its rows of tables_1 -/
def lw_okq (q : MethodName × Nat) : Prop := (q.1.cls ≠ "java/lang/invoke/MethodHandle" ∧ q.1.cls ≠ "java/lang/invoke/VarHandle") ∧ Cond.instantiable q.1.cls q.2 ∈ tables_1 ∧ Cond.privateMethod q.1 ∈ tables_1 ∧ Cond.instanceMethod q.1 ∈ tables_1
theorem lw_p0 : lw_okq (⟨"DataShrinker$Program", "forgetReferencesTo", "(I)V"⟩, 15) := ⟨⟨by decide +kernel, by decide +kernel⟩, List.mem_of_getElem? (i := 24) (by decide +kernel), List.mem_of_getElem? (i := 330) (by decide +kernel), List.mem_of_getElem? (i := 331) (by decide +kernel)⟩
theorem lw_p1 : lw_okq (⟨"DataShrinker$Machine", "begin", "(I)V"⟩, 14) := ⟨⟨by decide +kernel, by decide +kernel⟩, List.mem_of_getElem? (i := 245) (by decide +kernel), List.mem_of_getElem? (i := 423) (by decide +kernel), List.mem_of_getElem? (i := 424) (by decide +kernel)⟩
theorem lw_p2 : lw_okq (⟨"DataShrinker$Machine", "leave", "()V"⟩, 14) := ⟨⟨by decide +kernel, by decide +kernel⟩, List.mem_of_getElem? (i := 245) (by decide +kernel), List.mem_of_getElem? (i := 431) (by decide +kernel), List.mem_of_getElem? (i := 432) (by decide +kernel)⟩
theorem lw_p3 : lw_okq (⟨"DataShrinker$Machine", "carryOut", "(I)I"⟩, 14) := ⟨⟨by decide +kernel, by decide +kernel⟩, List.mem_of_getElem? (i := 245) (by decide +kernel), List.mem_of_getElem? (i := 435) (by decide +kernel), List.mem_of_getElem? (i := 436) (by decide +kernel)⟩
theorem lw_p4 : lw_okq (⟨"DataShrinker$Machine", "put", "(II)I"⟩, 14) := ⟨⟨by decide +kernel, by decide +kernel⟩, List.mem_of_getElem? (i := 245) (by decide +kernel), List.mem_of_getElem? (i := 439) (by decide +kernel), List.mem_of_getElem? (i := 440) (by decide +kernel)⟩
theorem lw_p5 : lw_okq (⟨"DataShrinker$Machine", "load", "(III)I"⟩, 14) := ⟨⟨by decide +kernel, by decide +kernel⟩, List.mem_of_getElem? (i := 245) (by decide +kernel), List.mem_of_getElem? (i := 446) (by decide +kernel), List.mem_of_getElem? (i := 447) (by decide +kernel)⟩
theorem lw_p6 : lw_okq (⟨"DataShrinker$Machine", "store", "(III)I"⟩, 14) := ⟨⟨by decide +kernel, by decide +kernel⟩, List.mem_of_getElem? (i := 245) (by decide +kernel), List.mem_of_getElem? (i := 451) (by decide +kernel), List.mem_of_getElem? (i := 452) (by decide +kernel)⟩
theorem lw_p7 : lw_okq (⟨"DataShrinker$Machine", "openFunction", "(I)I"⟩, 14) := ⟨⟨by decide +kernel, by decide +kernel⟩, List.mem_of_getElem? (i := 245) (by decide +kernel), List.mem_of_getElem? (i := 455) (by decide +kernel), List.mem_of_getElem? (i := 456) (by decide +kernel)⟩
theorem lw_p8 : lw_okq (⟨"DataShrinker$Machine", "skip", "(I)I"⟩, 14) := ⟨⟨by decide +kernel, by decide +kernel⟩, List.mem_of_getElem? (i := 245) (by decide +kernel), List.mem_of_getElem? (i := 459) (by decide +kernel), List.mem_of_getElem? (i := 460) (by decide +kernel)⟩
theorem lw_p9 : lw_okq (⟨"DataShrinker$Machine", "send", "(I)I"⟩, 14) := ⟨⟨by decide +kernel, by decide +kernel⟩, List.mem_of_getElem? (i := 245) (by decide +kernel), List.mem_of_getElem? (i := 463) (by decide +kernel), List.mem_of_getElem? (i := 464) (by decide +kernel)⟩
theorem lw_p10 : lw_okq (⟨"DataShrinker$Machine", "takeInput", "()I"⟩, 14) := ⟨⟨by decide +kernel, by decide +kernel⟩, List.mem_of_getElem? (i := 245) (by decide +kernel), List.mem_of_getElem? (i := 467) (by decide +kernel), List.mem_of_getElem? (i := 468) (by decide +kernel)⟩
theorem lw_p11 : lw_okq (⟨"DataShrinker$Machine", "standAsOne", "(II)Z"⟩, 14) := ⟨⟨by decide +kernel, by decide +kernel⟩, List.mem_of_getElem? (i := 245) (by decide +kernel), List.mem_of_getElem? (i := 471) (by decide +kernel), List.mem_of_getElem? (i := 472) (by decide +kernel)⟩
theorem lw_p12 : lw_okq (⟨"DataShrinker$Machine", "follow", "(III)I"⟩, 14) := ⟨⟨by decide +kernel, by decide +kernel⟩, List.mem_of_getElem? (i := 245) (by decide +kernel), List.mem_of_getElem? (i := 478) (by decide +kernel), List.mem_of_getElem? (i := 479) (by decide +kernel)⟩
theorem lw_p13 : lw_okq (⟨"DataShrinker$Reach", "forget", "()V"⟩, 12) := ⟨⟨by decide +kernel, by decide +kernel⟩, List.mem_of_getElem? (i := 107) (by decide +kernel), List.mem_of_getElem? (i := 520) (by decide +kernel), List.mem_of_getElem? (i := 521) (by decide +kernel)⟩
theorem lw_p14 : lw_okq (⟨"DataShrinker$Reach", "forgetStates", "()V"⟩, 12) := ⟨⟨by decide +kernel, by decide +kernel⟩, List.mem_of_getElem? (i := 107) (by decide +kernel), List.mem_of_getElem? (i := 531) (by decide +kernel), List.mem_of_getElem? (i := 532) (by decide +kernel)⟩
theorem lw_p15 : lw_okq (⟨"DataShrinker$Reach", "standAsTold", "()V"⟩, 12) := ⟨⟨by decide +kernel, by decide +kernel⟩, List.mem_of_getElem? (i := 107) (by decide +kernel), List.mem_of_getElem? (i := 546) (by decide +kernel), List.mem_of_getElem? (i := 547) (by decide +kernel)⟩
def lw_privs_1 : List (MethodName × Nat) := [(⟨"DataShrinker$Program", "forgetReferencesTo", "(I)V"⟩, 15), (⟨"DataShrinker$Machine", "begin", "(I)V"⟩, 14), (⟨"DataShrinker$Machine", "leave", "()V"⟩, 14), (⟨"DataShrinker$Machine", "carryOut", "(I)I"⟩, 14), (⟨"DataShrinker$Machine", "put", "(II)I"⟩, 14), (⟨"DataShrinker$Machine", "load", "(III)I"⟩, 14), (⟨"DataShrinker$Machine", "store", "(III)I"⟩, 14), (⟨"DataShrinker$Machine", "openFunction", "(I)I"⟩, 14), (⟨"DataShrinker$Machine", "skip", "(I)I"⟩, 14), (⟨"DataShrinker$Machine", "send", "(I)I"⟩, 14), (⟨"DataShrinker$Machine", "takeInput", "()I"⟩, 14), (⟨"DataShrinker$Machine", "standAsOne", "(II)Z"⟩, 14), (⟨"DataShrinker$Machine", "follow", "(III)I"⟩, 14), (⟨"DataShrinker$Reach", "forget", "()V"⟩, 12), (⟨"DataShrinker$Reach", "forgetStates", "()V"⟩, 12), (⟨"DataShrinker$Reach", "standAsTold", "()V"⟩, 12)]
theorem lw_r1 : ∀ q ∈ lw_privs_1, lw_okq q := List.forall_mem_cons.mpr ⟨lw_p0, List.forall_mem_cons.mpr ⟨lw_p1, List.forall_mem_cons.mpr ⟨lw_p2, List.forall_mem_cons.mpr ⟨lw_p3, List.forall_mem_cons.mpr ⟨lw_p4, List.forall_mem_cons.mpr ⟨lw_p5, List.forall_mem_cons.mpr ⟨lw_p6, List.forall_mem_cons.mpr ⟨lw_p7, List.forall_mem_cons.mpr ⟨lw_p8, List.forall_mem_cons.mpr ⟨lw_p9, List.forall_mem_cons.mpr ⟨lw_p10, List.forall_mem_cons.mpr ⟨lw_p11, List.forall_mem_cons.mpr ⟨lw_p12, List.forall_mem_cons.mpr ⟨lw_p13, List.forall_mem_cons.mpr ⟨lw_p14, List.forall_mem_cons.mpr ⟨lw_p15, fun _ h => absurd h List.not_mem_nil⟩⟩⟩⟩⟩⟩⟩⟩⟩⟩⟩⟩⟩⟩⟩⟩
theorem lw_p16 : lw_okq (⟨"DataShrinker$Reach", "findSites", "()V"⟩, 12) := ⟨⟨by decide +kernel, by decide +kernel⟩, List.mem_of_getElem? (i := 107) (by decide +kernel), List.mem_of_getElem? (i := 556) (by decide +kernel), List.mem_of_getElem? (i := 557) (by decide +kernel)⟩
theorem lw_p17 : lw_okq (⟨"DataShrinker$Reach", "wakerOf", "(I)I"⟩, 12) := ⟨⟨by decide +kernel, by decide +kernel⟩, List.mem_of_getElem? (i := 107) (by decide +kernel), List.mem_of_getElem? (i := 560) (by decide +kernel), List.mem_of_getElem? (i := 561) (by decide +kernel)⟩
theorem lw_p18 : lw_okq (⟨"DataShrinker$Reach", "beginAtEntries", "()V"⟩, 12) := ⟨⟨by decide +kernel, by decide +kernel⟩, List.mem_of_getElem? (i := 107) (by decide +kernel), List.mem_of_getElem? (i := 564) (by decide +kernel), List.mem_of_getElem? (i := 565) (by decide +kernel)⟩
theorem lw_p19 : lw_okq (⟨"DataShrinker$Reach", "placeIn", "(II)I"⟩, 12) := ⟨⟨by decide +kernel, by decide +kernel⟩, List.mem_of_getElem? (i := 107) (by decide +kernel), List.mem_of_getElem? (i := 573) (by decide +kernel), List.mem_of_getElem? (i := 574) (by decide +kernel)⟩
theorem lw_p20 : lw_okq (⟨"DataShrinker$Reach", "arriveAt", "(II)V"⟩, 12) := ⟨⟨by decide +kernel, by decide +kernel⟩, List.mem_of_getElem? (i := 107) (by decide +kernel), List.mem_of_getElem? (i := 584) (by decide +kernel), List.mem_of_getElem? (i := 585) (by decide +kernel)⟩
theorem lw_p21 : lw_okq (⟨"DataShrinker$Reach", "goRound", "()Z"⟩, 12) := ⟨⟨by decide +kernel, by decide +kernel⟩, List.mem_of_getElem? (i := 107) (by decide +kernel), List.mem_of_getElem? (i := 589) (by decide +kernel), List.mem_of_getElem? (i := 590) (by decide +kernel)⟩
theorem lw_p22 : lw_okq (⟨"DataShrinker$Reach", "takeOn", "(II)V"⟩, 12) := ⟨⟨by decide +kernel, by decide +kernel⟩, List.mem_of_getElem? (i := 107) (by decide +kernel), List.mem_of_getElem? (i := 601) (by decide +kernel), List.mem_of_getElem? (i := 602) (by decide +kernel)⟩
theorem lw_p23 : lw_okq (⟨"DataShrinker$Reach", "wake", "(I)V"⟩, 12) := ⟨⟨by decide +kernel, by decide +kernel⟩, List.mem_of_getElem? (i := 107) (by decide +kernel), List.mem_of_getElem? (i := 605) (by decide +kernel), List.mem_of_getElem? (i := 606) (by decide +kernel)⟩
theorem lw_p24 : lw_okq (⟨"DataShrinker$Reach", "takeStore", "(IIII)Z"⟩, 12) := ⟨⟨by decide +kernel, by decide +kernel⟩, List.mem_of_getElem? (i := 107) (by decide +kernel), List.mem_of_getElem? (i := 609) (by decide +kernel), List.mem_of_getElem? (i := 610) (by decide +kernel)⟩
theorem lw_p25 : lw_okq (⟨"DataShrinker$Reach", "placesIn", "(II)J"⟩, 12) := ⟨⟨by decide +kernel, by decide +kernel⟩, List.mem_of_getElem? (i := 107) (by decide +kernel), List.mem_of_getElem? (i := 613) (by decide +kernel), List.mem_of_getElem? (i := 614) (by decide +kernel)⟩
theorem lw_p26 : lw_okq (⟨"DataShrinker$Reach", "flow", "(IIII)V"⟩, 12) := ⟨⟨by decide +kernel, by decide +kernel⟩, List.mem_of_getElem? (i := 107) (by decide +kernel), List.mem_of_getElem? (i := 621) (by decide +kernel), List.mem_of_getElem? (i := 622) (by decide +kernel)⟩
theorem lw_p27 : lw_okq (⟨"DataShrinker$Reach", "takeCall", "(III)V"⟩, 12) := ⟨⟨by decide +kernel, by decide +kernel⟩, List.mem_of_getElem? (i := 107) (by decide +kernel), List.mem_of_getElem? (i := 625) (by decide +kernel), List.mem_of_getElem? (i := 626) (by decide +kernel)⟩
theorem lw_p28 : lw_okq (⟨"DataShrinker$Reach", "takeNought", "(IIII)V"⟩, 12) := ⟨⟨by decide +kernel, by decide +kernel⟩, List.mem_of_getElem? (i := 107) (by decide +kernel), List.mem_of_getElem? (i := 633) (by decide +kernel), List.mem_of_getElem? (i := 634) (by decide +kernel)⟩
theorem lw_p29 : lw_okq (⟨"DataShrinker$Reach", "makeRest", "(II)Z"⟩, 12) := ⟨⟨by decide +kernel, by decide +kernel⟩, List.mem_of_getElem? (i := 107) (by decide +kernel), List.mem_of_getElem? (i := 637) (by decide +kernel), List.mem_of_getElem? (i := 638) (by decide +kernel)⟩
theorem lw_p30 : lw_okq (⟨"DataShrinker$Reach", "takeLoad", "(IIII)Z"⟩, 12) := ⟨⟨by decide +kernel, by decide +kernel⟩, List.mem_of_getElem? (i := 107) (by decide +kernel), List.mem_of_getElem? (i := 645) (by decide +kernel), List.mem_of_getElem? (i := 646) (by decide +kernel)⟩
theorem lw_p31 : lw_okq (⟨"DataShrinker$Reach", "takeFollow", "(IIII)Z"⟩, 12) := ⟨⟨by decide +kernel, by decide +kernel⟩, List.mem_of_getElem? (i := 107) (by decide +kernel), List.mem_of_getElem? (i := 649) (by decide +kernel), List.mem_of_getElem? (i := 650) (by decide +kernel)⟩
def lw_privs_2 : List (MethodName × Nat) := [(⟨"DataShrinker$Reach", "findSites", "()V"⟩, 12), (⟨"DataShrinker$Reach", "wakerOf", "(I)I"⟩, 12), (⟨"DataShrinker$Reach", "beginAtEntries", "()V"⟩, 12), (⟨"DataShrinker$Reach", "placeIn", "(II)I"⟩, 12), (⟨"DataShrinker$Reach", "arriveAt", "(II)V"⟩, 12), (⟨"DataShrinker$Reach", "goRound", "()Z"⟩, 12), (⟨"DataShrinker$Reach", "takeOn", "(II)V"⟩, 12), (⟨"DataShrinker$Reach", "wake", "(I)V"⟩, 12), (⟨"DataShrinker$Reach", "takeStore", "(IIII)Z"⟩, 12), (⟨"DataShrinker$Reach", "placesIn", "(II)J"⟩, 12), (⟨"DataShrinker$Reach", "flow", "(IIII)V"⟩, 12), (⟨"DataShrinker$Reach", "takeCall", "(III)V"⟩, 12), (⟨"DataShrinker$Reach", "takeNought", "(IIII)V"⟩, 12), (⟨"DataShrinker$Reach", "makeRest", "(II)Z"⟩, 12), (⟨"DataShrinker$Reach", "takeLoad", "(IIII)Z"⟩, 12), (⟨"DataShrinker$Reach", "takeFollow", "(IIII)Z"⟩, 12)]
theorem lw_r2 : ∀ q ∈ lw_privs_2, lw_okq q := List.forall_mem_cons.mpr ⟨lw_p16, List.forall_mem_cons.mpr ⟨lw_p17, List.forall_mem_cons.mpr ⟨lw_p18, List.forall_mem_cons.mpr ⟨lw_p19, List.forall_mem_cons.mpr ⟨lw_p20, List.forall_mem_cons.mpr ⟨lw_p21, List.forall_mem_cons.mpr ⟨lw_p22, List.forall_mem_cons.mpr ⟨lw_p23, List.forall_mem_cons.mpr ⟨lw_p24, List.forall_mem_cons.mpr ⟨lw_p25, List.forall_mem_cons.mpr ⟨lw_p26, List.forall_mem_cons.mpr ⟨lw_p27, List.forall_mem_cons.mpr ⟨lw_p28, List.forall_mem_cons.mpr ⟨lw_p29, List.forall_mem_cons.mpr ⟨lw_p30, List.forall_mem_cons.mpr ⟨lw_p31, fun _ h => absurd h List.not_mem_nil⟩⟩⟩⟩⟩⟩⟩⟩⟩⟩⟩⟩⟩⟩⟩⟩
theorem lw_p32 : lw_okq (⟨"DataShrinker$Reach", "makeSimple", "(II)V"⟩, 12) := ⟨⟨by decide +kernel, by decide +kernel⟩, List.mem_of_getElem? (i := 107) (by decide +kernel), List.mem_of_getElem? (i := 653) (by decide +kernel), List.mem_of_getElem? (i := 654) (by decide +kernel)⟩
theorem lw_p33 : lw_okq (⟨"DataShrinker$Reach", "takeSame", "(II)V"⟩, 12) := ⟨⟨by decide +kernel, by decide +kernel⟩, List.mem_of_getElem? (i := 107) (by decide +kernel), List.mem_of_getElem? (i := 673) (by decide +kernel), List.mem_of_getElem? (i := 674) (by decide +kernel)⟩
theorem lw_p34 : lw_okq (⟨"DataShrinker$Chains", "stepOn", "(JI)J"⟩, 2) := ⟨⟨by decide +kernel, by decide +kernel⟩, List.mem_of_getElem? (i := 113) (by decide +kernel), List.mem_of_getElem? (i := 683) (by decide +kernel), List.mem_of_getElem? (i := 684) (by decide +kernel)⟩
theorem lw_p35 : lw_okq (⟨"DataShrinker$Layout", "begin", "()V"⟩, 14) := ⟨⟨by decide +kernel, by decide +kernel⟩, List.mem_of_getElem? (i := 173) (by decide +kernel), List.mem_of_getElem? (i := 692) (by decide +kernel), List.mem_of_getElem? (i := 693) (by decide +kernel)⟩
theorem lw_p36 : lw_okq (⟨"DataShrinker$Layout", "keepItems", "()V"⟩, 14) := ⟨⟨by decide +kernel, by decide +kernel⟩, List.mem_of_getElem? (i := 173) (by decide +kernel), List.mem_of_getElem? (i := 698) (by decide +kernel), List.mem_of_getElem? (i := 699) (by decide +kernel)⟩
theorem lw_p37 : lw_okq (⟨"DataShrinker$Layout", "keepGroups", "()V"⟩, 14) := ⟨⟨by decide +kernel, by decide +kernel⟩, List.mem_of_getElem? (i := 173) (by decide +kernel), List.mem_of_getElem? (i := 702) (by decide +kernel), List.mem_of_getElem? (i := 703) (by decide +kernel)⟩
theorem lw_p38 : lw_okq (⟨"DataShrinker$Layout", "findStill", "()V"⟩, 14) := ⟨⟨by decide +kernel, by decide +kernel⟩, List.mem_of_getElem? (i := 173) (by decide +kernel), List.mem_of_getElem? (i := 706) (by decide +kernel), List.mem_of_getElem? (i := 707) (by decide +kernel)⟩
theorem lw_p39 : lw_okq (⟨"DataShrinker$Layout", "joinAlike", "()V"⟩, 14) := ⟨⟨by decide +kernel, by decide +kernel⟩, List.mem_of_getElem? (i := 173) (by decide +kernel), List.mem_of_getElem? (i := 710) (by decide +kernel), List.mem_of_getElem? (i := 711) (by decide +kernel)⟩
theorem lw_p40 : lw_okq (⟨"DataShrinker$Layout", "standsStill", "(I)Z"⟩, 14) := ⟨⟨by decide +kernel, by decide +kernel⟩, List.mem_of_getElem? (i := 173) (by decide +kernel), List.mem_of_getElem? (i := 714) (by decide +kernel), List.mem_of_getElem? (i := 715) (by decide +kernel)⟩
theorem lw_p41 : lw_okq (⟨"DataShrinker$Layout", "endsWith", "(II)Z"⟩, 14) := ⟨⟨by decide +kernel, by decide +kernel⟩, List.mem_of_getElem? (i := 173) (by decide +kernel), List.mem_of_getElem? (i := 718) (by decide +kernel), List.mem_of_getElem? (i := 719) (by decide +kernel)⟩
theorem lw_p42 : lw_okq (⟨"DataShrinker$Layout", "layTails", "()V"⟩, 14) := ⟨⟨by decide +kernel, by decide +kernel⟩, List.mem_of_getElem? (i := 173) (by decide +kernel), List.mem_of_getElem? (i := 725) (by decide +kernel), List.mem_of_getElem? (i := 726) (by decide +kernel)⟩
theorem lw_p43 : lw_okq (⟨"DataShrinker$Layout", "holdsAny", "(I)Z"⟩, 14) := ⟨⟨by decide +kernel, by decide +kernel⟩, List.mem_of_getElem? (i := 173) (by decide +kernel), List.mem_of_getElem? (i := 729) (by decide +kernel), List.mem_of_getElem? (i := 730) (by decide +kernel)⟩
theorem lw_p44 : lw_okq (⟨"DataShrinker$Layout", "findOuter", "(I)I"⟩, 14) := ⟨⟨by decide +kernel, by decide +kernel⟩, List.mem_of_getElem? (i := 173) (by decide +kernel), List.mem_of_getElem? (i := 733) (by decide +kernel), List.mem_of_getElem? (i := 734) (by decide +kernel)⟩
theorem lw_p45 : lw_okq (⟨"DataShrinker$Layout", "fitsAlign", "(II)Z"⟩, 14) := ⟨⟨by decide +kernel, by decide +kernel⟩, List.mem_of_getElem? (i := 173) (by decide +kernel), List.mem_of_getElem? (i := 737) (by decide +kernel), List.mem_of_getElem? (i := 738) (by decide +kernel)⟩
theorem lw_p46 : lw_okq (⟨"DataShrinker$Layout", "listBlocks", "()V"⟩, 14) := ⟨⟨by decide +kernel, by decide +kernel⟩, List.mem_of_getElem? (i := 173) (by decide +kernel), List.mem_of_getElem? (i := 741) (by decide +kernel), List.mem_of_getElem? (i := 742) (by decide +kernel)⟩
theorem lw_p47 : lw_okq (⟨"DataShrinker$BlockOrder", "measure", "(I[I[I)V"⟩, 2) := ⟨⟨by decide +kernel, by decide +kernel⟩, List.mem_of_getElem? (i := 179) (by decide +kernel), List.mem_of_getElem? (i := 754) (by decide +kernel), List.mem_of_getElem? (i := 755) (by decide +kernel)⟩
def lw_privs_3 : List (MethodName × Nat) := [(⟨"DataShrinker$Reach", "makeSimple", "(II)V"⟩, 12), (⟨"DataShrinker$Reach", "takeSame", "(II)V"⟩, 12), (⟨"DataShrinker$Chains", "stepOn", "(JI)J"⟩, 2), (⟨"DataShrinker$Layout", "begin", "()V"⟩, 14), (⟨"DataShrinker$Layout", "keepItems", "()V"⟩, 14), (⟨"DataShrinker$Layout", "keepGroups", "()V"⟩, 14), (⟨"DataShrinker$Layout", "findStill", "()V"⟩, 14), (⟨"DataShrinker$Layout", "joinAlike", "()V"⟩, 14), (⟨"DataShrinker$Layout", "standsStill", "(I)Z"⟩, 14), (⟨"DataShrinker$Layout", "endsWith", "(II)Z"⟩, 14), (⟨"DataShrinker$Layout", "layTails", "()V"⟩, 14), (⟨"DataShrinker$Layout", "holdsAny", "(I)Z"⟩, 14), (⟨"DataShrinker$Layout", "findOuter", "(I)I"⟩, 14), (⟨"DataShrinker$Layout", "fitsAlign", "(II)Z"⟩, 14), (⟨"DataShrinker$Layout", "listBlocks", "()V"⟩, 14), (⟨"DataShrinker$BlockOrder", "measure", "(I[I[I)V"⟩, 2)]
theorem lw_r3 : ∀ q ∈ lw_privs_3, lw_okq q := List.forall_mem_cons.mpr ⟨lw_p32, List.forall_mem_cons.mpr ⟨lw_p33, List.forall_mem_cons.mpr ⟨lw_p34, List.forall_mem_cons.mpr ⟨lw_p35, List.forall_mem_cons.mpr ⟨lw_p36, List.forall_mem_cons.mpr ⟨lw_p37, List.forall_mem_cons.mpr ⟨lw_p38, List.forall_mem_cons.mpr ⟨lw_p39, List.forall_mem_cons.mpr ⟨lw_p40, List.forall_mem_cons.mpr ⟨lw_p41, List.forall_mem_cons.mpr ⟨lw_p42, List.forall_mem_cons.mpr ⟨lw_p43, List.forall_mem_cons.mpr ⟨lw_p44, List.forall_mem_cons.mpr ⟨lw_p45, List.forall_mem_cons.mpr ⟨lw_p46, List.forall_mem_cons.mpr ⟨lw_p47, fun _ h => absurd h List.not_mem_nil⟩⟩⟩⟩⟩⟩⟩⟩⟩⟩⟩⟩⟩⟩⟩⟩
theorem lw_p48 : lw_okq (⟨"DataShrinker$BlockOrder", "need", "(III[I[I)I"⟩, 2) := ⟨⟨by decide +kernel, by decide +kernel⟩, List.mem_of_getElem? (i := 179) (by decide +kernel), List.mem_of_getElem? (i := 759) (by decide +kernel), List.mem_of_getElem? (i := 760) (by decide +kernel)⟩
theorem lw_p49 : lw_okq (⟨"DataShrinker$BlockOrder", "choose", "(III[I[I)I"⟩, 2) := ⟨⟨by decide +kernel, by decide +kernel⟩, List.mem_of_getElem? (i := 179) (by decide +kernel), List.mem_of_getElem? (i := 767) (by decide +kernel), List.mem_of_getElem? (i := 768) (by decide +kernel)⟩
theorem lw_p50 : lw_okq (⟨"DataShrinker$Layout", "placeBlocks", "()V"⟩, 14) := ⟨⟨by decide +kernel, by decide +kernel⟩, List.mem_of_getElem? (i := 173) (by decide +kernel), List.mem_of_getElem? (i := 771) (by decide +kernel), List.mem_of_getElem? (i := 772) (by decide +kernel)⟩
theorem lw_p51 : lw_okq (⟨"DataShrinker$Layout", "placeOthers", "()V"⟩, 14) := ⟨⟨by decide +kernel, by decide +kernel⟩, List.mem_of_getElem? (i := 173) (by decide +kernel), List.mem_of_getElem? (i := 776) (by decide +kernel), List.mem_of_getElem? (i := 777) (by decide +kernel)⟩
theorem lw_p52 : lw_okq (⟨"DataShrinker$Layout", "writeOctets", "()V"⟩, 14) := ⟨⟨by decide +kernel, by decide +kernel⟩, List.mem_of_getElem? (i := 173) (by decide +kernel), List.mem_of_getElem? (i := 780) (by decide +kernel), List.mem_of_getElem? (i := 781) (by decide +kernel)⟩
theorem lw_p53 : lw_okq (⟨"DataShrinker", "hadItem", "(I)Z"⟩, 6) := ⟨⟨by decide +kernel, by decide +kernel⟩, List.mem_of_getElem? (i := 16) (by decide +kernel), List.mem_of_getElem? (i := 788) (by decide +kernel), List.mem_of_getElem? (i := 789) (by decide +kernel)⟩
theorem lw_p54 : lw_okq (⟨"DataShrinker$Layout", "isDropped", "(I)Z"⟩, 14) := ⟨⟨by decide +kernel, by decide +kernel⟩, List.mem_of_getElem? (i := 173) (by decide +kernel), List.mem_of_getElem? (i := 845) (by decide +kernel), List.mem_of_getElem? (i := 846) (by decide +kernel)⟩
theorem lw_p55 : lw_okq (⟨"DataShrinkerModel", "has", "(II)Z"⟩, 59) := ⟨⟨by decide +kernel, by decide +kernel⟩, List.mem_of_getElem? (i := 856) (by decide +kernel), List.mem_of_getElem? (i := 1050) (by decide +kernel), List.mem_of_getElem? (i := 1051) (by decide +kernel)⟩
theorem lw_p56 : lw_okq (⟨"DataShrinkerModel", "goes", "(I)I"⟩, 59) := ⟨⟨by decide +kernel, by decide +kernel⟩, List.mem_of_getElem? (i := 856) (by decide +kernel), List.mem_of_getElem? (i := 1092) (by decide +kernel), List.mem_of_getElem? (i := 1093) (by decide +kernel)⟩
theorem lw_p57 : lw_okq (⟨"DataShrinkerModel", "place", "(II)I"⟩, 59) := ⟨⟨by decide +kernel, by decide +kernel⟩, List.mem_of_getElem? (i := 856) (by decide +kernel), List.mem_of_getElem? (i := 1096) (by decide +kernel), List.mem_of_getElem? (i := 1097) (by decide +kernel)⟩
theorem lw_p58 : lw_okq (⟨"DataShrinkerModel", "reach", "()V"⟩, 59) := ⟨⟨by decide +kernel, by decide +kernel⟩, List.mem_of_getElem? (i := 856) (by decide +kernel), List.mem_of_getElem? (i := 1116) (by decide +kernel), List.mem_of_getElem? (i := 1117) (by decide +kernel)⟩
theorem lw_p59 : lw_okq (⟨"DataShrinkerModel", "comes", "(II)V"⟩, 59) := ⟨⟨by decide +kernel, by decide +kernel⟩, List.mem_of_getElem? (i := 856) (by decide +kernel), List.mem_of_getElem? (i := 1120) (by decide +kernel), List.mem_of_getElem? (i := 1121) (by decide +kernel)⟩
theorem lw_p60 : lw_okq (⟨"DataShrinkerModel", "takes", "(II)V"⟩, 59) := ⟨⟨by decide +kernel, by decide +kernel⟩, List.mem_of_getElem? (i := 856) (by decide +kernel), List.mem_of_getElem? (i := 1124) (by decide +kernel), List.mem_of_getElem? (i := 1125) (by decide +kernel)⟩
theorem lw_p61 : lw_okq (⟨"DataShrinkerModel", "returned", "(I)V"⟩, 59) := ⟨⟨by decide +kernel, by decide +kernel⟩, List.mem_of_getElem? (i := 856) (by decide +kernel), List.mem_of_getElem? (i := 1128) (by decide +kernel), List.mem_of_getElem? (i := 1129) (by decide +kernel)⟩
theorem lw_p62 : lw_okq (⟨"DataShrinkerModel", "empty", "()V"⟩, 59) := ⟨⟨by decide +kernel, by decide +kernel⟩, List.mem_of_getElem? (i := 856) (by decide +kernel), List.mem_of_getElem? (i := 1132) (by decide +kernel), List.mem_of_getElem? (i := 1133) (by decide +kernel)⟩
theorem lw_p63 : lw_okq (⟨"DataShrinkerModel", "put", "(I)V"⟩, 59) := ⟨⟨by decide +kernel, by decide +kernel⟩, List.mem_of_getElem? (i := 856) (by decide +kernel), List.mem_of_getElem? (i := 1136) (by decide +kernel), List.mem_of_getElem? (i := 1137) (by decide +kernel)⟩
def lw_privs_4 : List (MethodName × Nat) := [(⟨"DataShrinker$BlockOrder", "need", "(III[I[I)I"⟩, 2), (⟨"DataShrinker$BlockOrder", "choose", "(III[I[I)I"⟩, 2), (⟨"DataShrinker$Layout", "placeBlocks", "()V"⟩, 14), (⟨"DataShrinker$Layout", "placeOthers", "()V"⟩, 14), (⟨"DataShrinker$Layout", "writeOctets", "()V"⟩, 14), (⟨"DataShrinker", "hadItem", "(I)Z"⟩, 6), (⟨"DataShrinker$Layout", "isDropped", "(I)Z"⟩, 14), (⟨"DataShrinkerModel", "has", "(II)Z"⟩, 59), (⟨"DataShrinkerModel", "goes", "(I)I"⟩, 59), (⟨"DataShrinkerModel", "place", "(II)I"⟩, 59), (⟨"DataShrinkerModel", "reach", "()V"⟩, 59), (⟨"DataShrinkerModel", "comes", "(II)V"⟩, 59), (⟨"DataShrinkerModel", "takes", "(II)V"⟩, 59), (⟨"DataShrinkerModel", "returned", "(I)V"⟩, 59), (⟨"DataShrinkerModel", "empty", "()V"⟩, 59), (⟨"DataShrinkerModel", "put", "(I)V"⟩, 59)]
theorem lw_r4 : ∀ q ∈ lw_privs_4, lw_okq q := List.forall_mem_cons.mpr ⟨lw_p48, List.forall_mem_cons.mpr ⟨lw_p49, List.forall_mem_cons.mpr ⟨lw_p50, List.forall_mem_cons.mpr ⟨lw_p51, List.forall_mem_cons.mpr ⟨lw_p52, List.forall_mem_cons.mpr ⟨lw_p53, List.forall_mem_cons.mpr ⟨lw_p54, List.forall_mem_cons.mpr ⟨lw_p55, List.forall_mem_cons.mpr ⟨lw_p56, List.forall_mem_cons.mpr ⟨lw_p57, List.forall_mem_cons.mpr ⟨lw_p58, List.forall_mem_cons.mpr ⟨lw_p59, List.forall_mem_cons.mpr ⟨lw_p60, List.forall_mem_cons.mpr ⟨lw_p61, List.forall_mem_cons.mpr ⟨lw_p62, List.forall_mem_cons.mpr ⟨lw_p63, fun _ h => absurd h List.not_mem_nil⟩⟩⟩⟩⟩⟩⟩⟩⟩⟩⟩⟩⟩⟩⟩⟩
theorem lw_p64 : lw_okq (⟨"DataShrinkerModel", "gets", "(I)V"⟩, 59) := ⟨⟨by decide +kernel, by decide +kernel⟩, List.mem_of_getElem? (i := 856) (by decide +kernel), List.mem_of_getElem? (i := 1140) (by decide +kernel), List.mem_of_getElem? (i := 1141) (by decide +kernel)⟩
theorem lw_p65 : lw_okq (⟨"DataShrinkerModel", "hasValue", "([JII)Z"⟩, 59) := ⟨⟨by decide +kernel, by decide +kernel⟩, List.mem_of_getElem? (i := 856) (by decide +kernel), List.mem_of_getElem? (i := 1144) (by decide +kernel), List.mem_of_getElem? (i := 1145) (by decide +kernel)⟩
theorem lw_p66 : lw_okq (⟨"DataShrinkerModel", "loads", "(II)Z"⟩, 59) := ⟨⟨by decide +kernel, by decide +kernel⟩, List.mem_of_getElem? (i := 856) (by decide +kernel), List.mem_of_getElem? (i := 1148) (by decide +kernel), List.mem_of_getElem? (i := 1149) (by decide +kernel)⟩
theorem lw_p67 : lw_okq (⟨"DataShrinkerModel", "stores", "(III)Z"⟩, 59) := ⟨⟨by decide +kernel, by decide +kernel⟩, List.mem_of_getElem? (i := 856) (by decide +kernel), List.mem_of_getElem? (i := 1152) (by decide +kernel), List.mem_of_getElem? (i := 1153) (by decide +kernel)⟩
theorem lw_p68 : lw_okq (⟨"DataShrinkerModel", "skips", "(IIII)Z"⟩, 59) := ⟨⟨by decide +kernel, by decide +kernel⟩, List.mem_of_getElem? (i := 856) (by decide +kernel), List.mem_of_getElem? (i := 1156) (by decide +kernel), List.mem_of_getElem? (i := 1157) (by decide +kernel)⟩
theorem lw_p69 : lw_okq (⟨"DataShrinkerModel", "follows", "(II)Z"⟩, 59) := ⟨⟨by decide +kernel, by decide +kernel⟩, List.mem_of_getElem? (i := 856) (by decide +kernel), List.mem_of_getElem? (i := 1162) (by decide +kernel), List.mem_of_getElem? (i := 1163) (by decide +kernel)⟩
theorem lw_p70 : lw_okq (⟨"DataShrinkerModel", "keeps", "()V"⟩, 59) := ⟨⟨by decide +kernel, by decide +kernel⟩, List.mem_of_getElem? (i := 856) (by decide +kernel), List.mem_of_getElem? (i := 1166) (by decide +kernel), List.mem_of_getElem? (i := 1167) (by decide +kernel)⟩
theorem lw_p71 : lw_okq (⟨"DataShrinkerModel", "reads", "(I)Z"⟩, 59) := ⟨⟨by decide +kernel, by decide +kernel⟩, List.mem_of_getElem? (i := 856) (by decide +kernel), List.mem_of_getElem? (i := 1170) (by decide +kernel), List.mem_of_getElem? (i := 1171) (by decide +kernel)⟩
theorem lw_p72 : lw_okq (⟨"DataShrinkerModel", "chains", "()V"⟩, 59) := ⟨⟨by decide +kernel, by decide +kernel⟩, List.mem_of_getElem? (i := 856) (by decide +kernel), List.mem_of_getElem? (i := 1174) (by decide +kernel), List.mem_of_getElem? (i := 1175) (by decide +kernel)⟩
theorem lw_p73 : lw_okq (⟨"DataShrinkerModel", "leads", "(II)V"⟩, 59) := ⟨⟨by decide +kernel, by decide +kernel⟩, List.mem_of_getElem? (i := 856) (by decide +kernel), List.mem_of_getElem? (i := 1178) (by decide +kernel), List.mem_of_getElem? (i := 1179) (by decide +kernel)⟩
theorem lw_p74 : lw_okq (⟨"DataShrinkerModel", "readsBy", "(IZ)Z"⟩, 59) := ⟨⟨by decide +kernel, by decide +kernel⟩, List.mem_of_getElem? (i := 856) (by decide +kernel), List.mem_of_getElem? (i := 1182) (by decide +kernel), List.mem_of_getElem? (i := 1183) (by decide +kernel)⟩
theorem lw_p75 : lw_okq (⟨"DataShrinkerModel", "lays", "()V"⟩, 59) := ⟨⟨by decide +kernel, by decide +kernel⟩, List.mem_of_getElem? (i := 856) (by decide +kernel), List.mem_of_getElem? (i := 1186) (by decide +kernel), List.mem_of_getElem? (i := 1187) (by decide +kernel)⟩
theorem lw_p76 : lw_okq (⟨"DataShrinkerModel", "joins", "()V"⟩, 59) := ⟨⟨by decide +kernel, by decide +kernel⟩, List.mem_of_getElem? (i := 856) (by decide +kernel), List.mem_of_getElem? (i := 1190) (by decide +kernel), List.mem_of_getElem? (i := 1191) (by decide +kernel)⟩
theorem lw_p77 : lw_okq (⟨"DataShrinkerModel", "refers", "(I)Z"⟩, 59) := ⟨⟨by decide +kernel, by decide +kernel⟩, List.mem_of_getElem? (i := 856) (by decide +kernel), List.mem_of_getElem? (i := 1194) (by decide +kernel), List.mem_of_getElem? (i := 1195) (by decide +kernel)⟩
theorem lw_p78 : lw_okq (⟨"DataShrinkerModel", "endsWith", "(II)Z"⟩, 59) := ⟨⟨by decide +kernel, by decide +kernel⟩, List.mem_of_getElem? (i := 856) (by decide +kernel), List.mem_of_getElem? (i := 1198) (by decide +kernel), List.mem_of_getElem? (i := 1199) (by decide +kernel)⟩
theorem lw_p79 : lw_okq (⟨"DataShrinkerModel", "tries", "()V"⟩, 59) := ⟨⟨by decide +kernel, by decide +kernel⟩, List.mem_of_getElem? (i := 856) (by decide +kernel), List.mem_of_getElem? (i := 1202) (by decide +kernel), List.mem_of_getElem? (i := 1203) (by decide +kernel)⟩
def lw_privs_5 : List (MethodName × Nat) := [(⟨"DataShrinkerModel", "gets", "(I)V"⟩, 59), (⟨"DataShrinkerModel", "hasValue", "([JII)Z"⟩, 59), (⟨"DataShrinkerModel", "loads", "(II)Z"⟩, 59), (⟨"DataShrinkerModel", "stores", "(III)Z"⟩, 59), (⟨"DataShrinkerModel", "skips", "(IIII)Z"⟩, 59), (⟨"DataShrinkerModel", "follows", "(II)Z"⟩, 59), (⟨"DataShrinkerModel", "keeps", "()V"⟩, 59), (⟨"DataShrinkerModel", "reads", "(I)Z"⟩, 59), (⟨"DataShrinkerModel", "chains", "()V"⟩, 59), (⟨"DataShrinkerModel", "leads", "(II)V"⟩, 59), (⟨"DataShrinkerModel", "readsBy", "(IZ)Z"⟩, 59), (⟨"DataShrinkerModel", "lays", "()V"⟩, 59), (⟨"DataShrinkerModel", "joins", "()V"⟩, 59), (⟨"DataShrinkerModel", "refers", "(I)Z"⟩, 59), (⟨"DataShrinkerModel", "endsWith", "(II)Z"⟩, 59), (⟨"DataShrinkerModel", "tries", "()V"⟩, 59)]
theorem lw_r5 : ∀ q ∈ lw_privs_5, lw_okq q := List.forall_mem_cons.mpr ⟨lw_p64, List.forall_mem_cons.mpr ⟨lw_p65, List.forall_mem_cons.mpr ⟨lw_p66, List.forall_mem_cons.mpr ⟨lw_p67, List.forall_mem_cons.mpr ⟨lw_p68, List.forall_mem_cons.mpr ⟨lw_p69, List.forall_mem_cons.mpr ⟨lw_p70, List.forall_mem_cons.mpr ⟨lw_p71, List.forall_mem_cons.mpr ⟨lw_p72, List.forall_mem_cons.mpr ⟨lw_p73, List.forall_mem_cons.mpr ⟨lw_p74, List.forall_mem_cons.mpr ⟨lw_p75, List.forall_mem_cons.mpr ⟨lw_p76, List.forall_mem_cons.mpr ⟨lw_p77, List.forall_mem_cons.mpr ⟨lw_p78, List.forall_mem_cons.mpr ⟨lw_p79, fun _ h => absurd h List.not_mem_nil⟩⟩⟩⟩⟩⟩⟩⟩⟩⟩⟩⟩⟩⟩⟩⟩
theorem lw_p80 : lw_okq (⟨"DataShrinkerModel", "bytesOf", "()I"⟩, 59) := ⟨⟨by decide +kernel, by decide +kernel⟩, List.mem_of_getElem? (i := 856) (by decide +kernel), List.mem_of_getElem? (i := 1206) (by decide +kernel), List.mem_of_getElem? (i := 1207) (by decide +kernel)⟩
theorem lw_p81 : lw_okq (⟨"DataShrinkerModel", "wasItem", "(I)Z"⟩, 59) := ⟨⟨by decide +kernel, by decide +kernel⟩, List.mem_of_getElem? (i := 856) (by decide +kernel), List.mem_of_getElem? (i := 1217) (by decide +kernel), List.mem_of_getElem? (i := 1218) (by decide +kernel)⟩
def lw_privs_6 : List (MethodName × Nat) := [(⟨"DataShrinkerModel", "bytesOf", "()I"⟩, 59), (⟨"DataShrinkerModel", "wasItem", "(I)Z"⟩, 59)]
theorem lw_r6 : ∀ q ∈ lw_privs_6, lw_okq q := List.forall_mem_cons.mpr ⟨lw_p80, List.forall_mem_cons.mpr ⟨lw_p81, fun _ h => absurd h List.not_mem_nil⟩⟩
def lw_privs : List (MethodName × Nat) := lw_privs_1 ++ (lw_privs_2 ++ (lw_privs_3 ++ (lw_privs_4 ++ (lw_privs_5 ++ (lw_privs_6)))))
def lw_tbl : List Cond := k2_sels lw_privs ++ tables_1
theorem lw_privs_ok : ∀ q ∈ lw_privs, lw_okq q := by
  show ∀ q ∈ lw_privs_1 ++ (lw_privs_2 ++ (lw_privs_3 ++ (lw_privs_4 ++ (lw_privs_5 ++ (lw_privs_6))))), lw_okq q
  exact List.forall_mem_append.mpr ⟨lw_r1, List.forall_mem_append.mpr ⟨lw_r2, List.forall_mem_append.mpr ⟨lw_r3, List.forall_mem_append.mpr ⟨lw_r4, List.forall_mem_append.mpr ⟨lw_r5, lw_r6⟩⟩⟩⟩⟩
theorem xmem {ws : List Cond} (ps : List Nat) (h : ws = ps.filterMap (fun i => lw_tbl[i]?)) : ∀ w ∈ ws, w ∈ lw_tbl := by
  intro w hw
  rw [h] at hw
  obtain ⟨i, -, hi⟩ := List.mem_filterMap.mp hw
  exact List.mem_of_getElem? hi
def xR0 : String := "DataShrinker$BlockOrder"
def xF0 : u_T := fun k => match k with
  | 0 => ("DataShrinker$BlockOrder", "taken", "[I", true)
  | _ => ("DataShrinker$BlockOrder", "fewest", "[I", true)
def xY0 : Nat → FieldType := fun k => match k with
  | 0 => .array .int
  | _ => .array .int
theorem xn0 : ∀ a, a < 2 → ∀ b, b < 2 → a ≠ b → (xF0 a).2.1 ≠ (xF0 b).2.1 := by decide +kernel
theorem xt0 : ∀ k, k < 2 → parseFieldDescriptor (xF0 k).2.2.1 = some (xY0 k) := by decide +kernel
set_option maxRecDepth 20000 in
theorem xi0 : ∀ w ∈ u_ws xR0 xF0 2, w ∈ lw_tbl := xmem [268, 270] rfl
def xR1 : String := "DataShrinker$Chains"
def xF1 : u_T := fun k => match k with
  | 0 => ("DataShrinker$Chains", "leads", "[J", true)
  | _ => ("DataShrinker$Chains", "lengths", "[I", true)
def xY1 : Nat → FieldType := fun k => match k with
  | 0 => .array .long
  | _ => .array .int
theorem xn1 : ∀ a, a < 2 → ∀ b, b < 2 → a ≠ b → (xF1 a).2.1 ≠ (xF1 b).2.1 := by decide +kernel
theorem xt1 : ∀ k, k < 2 → parseFieldDescriptor (xF1 k).2.2.1 = some (xY1 k) := by decide +kernel
set_option maxRecDepth 20000 in
theorem xi1 : ∀ w ∈ u_ws xR1 xF1 2, w ∈ lw_tbl := xmem [203, 205] rfl
def xR2 : String := "DataShrinker$Layout"
def xF2 : u_T := fun k => match k with
  | 0 => ("DataShrinker$Layout", "program", "LDataShrinker$Program;", true)
  | 1 => ("DataShrinker$Layout", "reach", "LDataShrinker$Reach;", true)
  | 2 => ("DataShrinker$Layout", "order", "LDataShrinker$BlockOrder;", true)
  | 3 => ("DataShrinker$Layout", "size", "[I", true)
  | 4 => ("DataShrinker$Layout", "align", "[I", true)
  | 5 => ("DataShrinker$Layout", "isKept", "[Z", true)
  | 6 => ("DataShrinker$Layout", "isStill", "[Z", true)
  | 7 => ("DataShrinker$Layout", "standIn", "[I", true)
  | 8 => ("DataShrinker$Layout", "outer", "[I", true)
  | 9 => ("DataShrinker$Layout", "address", "[I", true)
  | 10 => ("DataShrinker$Layout", "blocks", "[I", true)
  | 11 => ("DataShrinker$Layout", "blockCount", "I", false)
  | 12 => ("DataShrinker$Layout", "octets", "[I", true)
  | _ => ("DataShrinker$Layout", "total", "I", false)
def xY2 : Nat → FieldType := fun k => match k with
  | 0 => .object "DataShrinker$Program"
  | 1 => .object "DataShrinker$Reach"
  | 2 => .object "DataShrinker$BlockOrder"
  | 3 => .array .int
  | 4 => .array .int
  | 5 => .array .boolean
  | 6 => .array .boolean
  | 7 => .array .int
  | 8 => .array .int
  | 9 => .array .int
  | 10 => .array .int
  | 11 => .int
  | 12 => .array .int
  | _ => .int
theorem xn2 : ∀ a, a < 14 → ∀ b, b < 14 → a ≠ b → (xF2 a).2.1 ≠ (xF2 b).2.1 := by decide +kernel
theorem xt2 : ∀ k, k < 14 → parseFieldDescriptor (xF2 k).2.2.1 = some (xY2 k) := by decide +kernel
set_option maxRecDepth 20000 in
theorem xi2 : ∀ w ∈ u_ws xR2 xF2 14, w ∈ lw_tbl := xmem [297, 299, 301, 303, 305, 307, 309, 311, 313, 315, 317, 319, 321, 323] rfl
def xR3 : String := "DataShrinker$Machine"
def xF3 : u_T := fun k => match k with
  | 0 => ("DataShrinker$Machine", "program", "LDataShrinker$Program;", true)
  | 1 => ("DataShrinker$Machine", "memory", "[I", true)
  | 2 => ("DataShrinker$Machine", "home", "[I", true)
  | 3 => ("DataShrinker$Machine", "registers", "[I", true)
  | 4 => ("DataShrinker$Machine", "callers", "[I", true)
  | 5 => ("DataShrinker$Machine", "returns", "[I", true)
  | 6 => ("DataShrinker$Machine", "sent", "[I", true)
  | 7 => ("DataShrinker$Machine", "hasWorked", "Z", false)
  | 8 => ("DataShrinker$Machine", "open", "I", false)
  | 9 => ("DataShrinker$Machine", "current", "I", false)
  | 10 => ("DataShrinker$Machine", "place", "I", false)
  | 11 => ("DataShrinker$Machine", "inputTaken", "I", false)
  | 12 => ("DataShrinker$Machine", "sentCount", "I", false)
  | _ => ("DataShrinker$Machine", "done", "I", false)
def xY3 : Nat → FieldType := fun k => match k with
  | 0 => .object "DataShrinker$Program"
  | 1 => .array .int
  | 2 => .array .int
  | 3 => .array .int
  | 4 => .array .int
  | 5 => .array .int
  | 6 => .array .int
  | 7 => .boolean
  | 8 => .int
  | 9 => .int
  | 10 => .int
  | 11 => .int
  | 12 => .int
  | _ => .int
theorem xn3 : ∀ a, a < 14 → ∀ b, b < 14 → a ≠ b → (xF3 a).2.1 ≠ (xF3 b).2.1 := by decide +kernel
theorem xt3 : ∀ k, k < 14 → parseFieldDescriptor (xF3 k).2.2.1 = some (xY3 k) := by decide +kernel
set_option maxRecDepth 20000 in
theorem xi3 : ∀ w ∈ u_ws xR3 xF3 14, w ∈ lw_tbl := xmem [346, 348, 350, 352, 354, 356, 358, 360, 362, 364, 366, 368, 370, 372] rfl
def xR4 : String := "DataShrinker$Program"
def xF4 : u_T := fun k => match k with
  | 0 => ("DataShrinker$Program", "size", "[I", true)
  | 1 => ("DataShrinker$Program", "align", "[I", true)
  | 2 => ("DataShrinker$Program", "group", "[I", true)
  | 3 => ("DataShrinker$Program", "isVital", "[Z", true)
  | 4 => ("DataShrinker$Program", "octets", "[I", true)
  | 5 => ("DataShrinker$Program", "leadsTo", "[I", true)
  | 6 => ("DataShrinker$Program", "references", "[J", true)
  | 7 => ("DataShrinker$Program", "length", "[I", true)
  | 8 => ("DataShrinker$Program", "op", "[I", true)
  | 9 => ("DataShrinker$Program", "a", "[I", true)
  | 10 => ("DataShrinker$Program", "b", "[I", true)
  | 11 => ("DataShrinker$Program", "c", "[I", true)
  | 12 => ("DataShrinker$Program", "isEntry", "[Z", true)
  | 13 => ("DataShrinker$Program", "given", "[I", true)
  | _ => ("DataShrinker$Program", "inputLength", "I", false)
def xY4 : Nat → FieldType := fun k => match k with
  | 0 => .array .int
  | 1 => .array .int
  | 2 => .array .int
  | 3 => .array .boolean
  | 4 => .array .int
  | 5 => .array .int
  | 6 => .array .long
  | 7 => .array .int
  | 8 => .array .int
  | 9 => .array .int
  | 10 => .array .int
  | 11 => .array .int
  | 12 => .array .boolean
  | 13 => .array .int
  | _ => .int
theorem xn4 : ∀ a, a < 15 → ∀ b, b < 15 → a ≠ b → (xF4 a).2.1 ≠ (xF4 b).2.1 := by decide +kernel
theorem xt4 : ∀ k, k < 15 → parseFieldDescriptor (xF4 k).2.2.1 = some (xY4 k) := by decide +kernel
set_option maxRecDepth 20000 in
theorem xi4 : ∀ w ∈ u_ws xR4 xF4 15, w ∈ lw_tbl := xmem [154, 156, 158, 160, 162, 164, 166, 168, 170, 172, 174, 176, 178, 180, 182] rfl
def xR5 : String := "DataShrinker$Reach"
def xF5 : u_T := fun k => match k with
  | 0 => ("DataShrinker$Reach", "program", "LDataShrinker$Program;", true)
  | 1 => ("DataShrinker$Reach", "chains", "LDataShrinker$Chains;", true)
  | 2 => ("DataShrinker$Reach", "length", "[I", true)
  | 3 => ("DataShrinker$Reach", "states", "[J", true)
  | 4 => ("DataShrinker$Reach", "stand", "[J", true)
  | 5 => ("DataShrinker$Reach", "comeTo", "[J", true)
  | 6 => ("DataShrinker$Reach", "waiting", "[J", true)
  | 7 => ("DataShrinker$Reach", "sites", "[J", true)
  | 8 => ("DataShrinker$Reach", "made", "[J", true)
  | 9 => ("DataShrinker$Reach", "placesRead", "[J", true)
  | 10 => ("DataShrinker$Reach", "isWritten", "[Z", true)
  | _ => ("DataShrinker$Reach", "isCompared", "[Z", true)
def xY5 : Nat → FieldType := fun k => match k with
  | 0 => .object "DataShrinker$Program"
  | 1 => .object "DataShrinker$Chains"
  | 2 => .array .int
  | 3 => .array .long
  | 4 => .array .long
  | 5 => .array .long
  | 6 => .array .long
  | 7 => .array .long
  | 8 => .array .long
  | 9 => .array .long
  | 10 => .array .boolean
  | _ => .array .boolean
theorem xn5 : ∀ a, a < 12 → ∀ b, b < 12 → a ≠ b → (xF5 a).2.1 ≠ (xF5 b).2.1 := by decide +kernel
theorem xt5 : ∀ k, k < 12 → parseFieldDescriptor (xF5 k).2.2.1 = some (xY5 k) := by decide +kernel
set_option maxRecDepth 20000 in
theorem xi5 : ∀ w ∈ u_ws xR5 xF5 12, w ∈ lw_tbl := xmem [229, 231, 233, 235, 237, 239, 241, 243, 245, 247, 249, 251] rfl
def xR6 : String := "DataShrinker"
def xF6 : u_T := fun k => match k with
  | 0 => ("DataShrinker", "program", "LDataShrinker$Program;", true)
  | 1 => ("DataShrinker", "reach", "LDataShrinker$Reach;", true)
  | 2 => ("DataShrinker", "layout", "LDataShrinker$Layout;", true)
  | 3 => ("DataShrinker", "machine", "LDataShrinker$Machine;", true)
  | 4 => ("DataShrinker", "wasShrunk", "Z", false)
  | _ => ("DataShrinker", "laidHolds", "Z", false)
def xY6 : Nat → FieldType := fun k => match k with
  | 0 => .object "DataShrinker$Program"
  | 1 => .object "DataShrinker$Reach"
  | 2 => .object "DataShrinker$Layout"
  | 3 => .object "DataShrinker$Machine"
  | 4 => .boolean
  | _ => .boolean
theorem xn6 : ∀ a, a < 6 → ∀ b, b < 6 → a ≠ b → (xF6 a).2.1 ≠ (xF6 b).2.1 := by decide +kernel
theorem xt6 : ∀ k, k < 6 → parseFieldDescriptor (xF6 k).2.2.1 = some (xY6 k) := by decide +kernel
set_option maxRecDepth 20000 in
theorem xi6 : ∀ w ∈ u_ws xR6 xF6 6, w ∈ lw_tbl := xmem [381, 383, 385, 387, 389, 391] rfl
def xR7 : String := "DataShrinkerModel"
def xF7 : u_T := fun k => match k with
  | 0 => ("DataShrinkerModel", "thrown", "I", false)
  | 1 => ("DataShrinkerModel", "size", "[I", true)
  | 2 => ("DataShrinkerModel", "align", "[I", true)
  | 3 => ("DataShrinkerModel", "group", "[I", true)
  | 4 => ("DataShrinkerModel", "told", "[I", true)
  | 5 => ("DataShrinkerModel", "ref", "[I", true)
  | 6 => ("DataShrinkerModel", "vital", "[Z", true)
  | 7 => ("DataShrinkerModel", "length", "[I", true)
  | 8 => ("DataShrinkerModel", "op", "[I", true)
  | 9 => ("DataShrinkerModel", "first", "[I", true)
  | 10 => ("DataShrinkerModel", "second", "[I", true)
  | 11 => ("DataShrinkerModel", "third", "[I", true)
  | 12 => ("DataShrinkerModel", "isEntry", "[Z", true)
  | 13 => ("DataShrinkerModel", "input", "[I", true)
  | 14 => ("DataShrinkerModel", "inputs", "I", false)
  | 15 => ("DataShrinkerModel", "stands", "[I", true)
  | 16 => ("DataShrinkerModel", "register", "[I", true)
  | 17 => ("DataShrinkerModel", "out", "[I", true)
  | 18 => ("DataShrinkerModel", "openFunction", "[I", true)
  | 19 => ("DataShrinkerModel", "openAt", "[I", true)
  | 20 => ("DataShrinkerModel", "outs", "I", false)
  | 21 => ("DataShrinkerModel", "done", "I", false)
  | 22 => ("DataShrinkerModel", "endFunction", "I", false)
  | 23 => ("DataShrinkerModel", "endAt", "I", false)
  | 24 => ("DataShrinkerModel", "hasRun", "Z", false)
  | 25 => ("DataShrinkerModel", "isLaid", "Z", false)
  | 26 => ("DataShrinkerModel", "isFresh", "Z", false)
  | 27 => ("DataShrinkerModel", "hasShrunk", "Z", false)
  | 28 => ("DataShrinkerModel", "state", "[J", true)
  | 29 => ("DataShrinkerModel", "may", "[J", true)
  | 30 => ("DataShrinkerModel", "back", "[J", true)
  | 31 => ("DataShrinkerModel", "isCome", "[Z", true)
  | 32 => ("DataShrinkerModel", "returns", "[Z", true)
  | 33 => ("DataShrinkerModel", "isRead", "[Z", true)
  | 34 => ("DataShrinkerModel", "isFollowed", "[Z", true)
  | 35 => ("DataShrinkerModel", "isWritten", "[Z", true)
  | 36 => ("DataShrinkerModel", "isCompared", "[Z", true)
  | 37 => ("DataShrinkerModel", "now", "[J", true)
  | 38 => ("DataShrinkerModel", "set", "[J", true)
  | 39 => ("DataShrinkerModel", "more", "Z", false)
  | 40 => ("DataShrinkerModel", "isKept", "[Z", true)
  | 41 => ("DataShrinkerModel", "isKeptFunction", "[Z", true)
  | 42 => ("DataShrinkerModel", "why", "[I", true)
  | 43 => ("DataShrinkerModel", "itsSize", "[I", true)
  | 44 => ("DataShrinkerModel", "itsLength", "[I", true)
  | 45 => ("DataShrinkerModel", "address", "[I", true)
  | 46 => ("DataShrinkerModel", "standsFor", "[I", true)
  | 47 => ("DataShrinkerModel", "within", "[I", true)
  | 48 => ("DataShrinkerModel", "itsAlign", "[I", true)
  | 49 => ("DataShrinkerModel", "laid", "[I", true)
  | 50 => ("DataShrinkerModel", "isStill", "[Z", true)
  | 51 => ("DataShrinkerModel", "holds", "[Z", true)
  | 52 => ("DataShrinkerModel", "block", "[I", true)
  | 53 => ("DataShrinkerModel", "order", "[I", true)
  | 54 => ("DataShrinkerModel", "best", "[I", true)
  | 55 => ("DataShrinkerModel", "isUsed", "[Z", true)
  | 56 => ("DataShrinkerModel", "blocks", "I", false)
  | 57 => ("DataShrinkerModel", "laidBytes", "I", false)
  | _ => ("DataShrinkerModel", "least", "I", false)
def xY7 : Nat → FieldType := fun k => match k with
  | 0 => .int
  | 1 => .array .int
  | 2 => .array .int
  | 3 => .array .int
  | 4 => .array .int
  | 5 => .array .int
  | 6 => .array .boolean
  | 7 => .array .int
  | 8 => .array .int
  | 9 => .array .int
  | 10 => .array .int
  | 11 => .array .int
  | 12 => .array .boolean
  | 13 => .array .int
  | 14 => .int
  | 15 => .array .int
  | 16 => .array .int
  | 17 => .array .int
  | 18 => .array .int
  | 19 => .array .int
  | 20 => .int
  | 21 => .int
  | 22 => .int
  | 23 => .int
  | 24 => .boolean
  | 25 => .boolean
  | 26 => .boolean
  | 27 => .boolean
  | 28 => .array .long
  | 29 => .array .long
  | 30 => .array .long
  | 31 => .array .boolean
  | 32 => .array .boolean
  | 33 => .array .boolean
  | 34 => .array .boolean
  | 35 => .array .boolean
  | 36 => .array .boolean
  | 37 => .array .long
  | 38 => .array .long
  | 39 => .boolean
  | 40 => .array .boolean
  | 41 => .array .boolean
  | 42 => .array .int
  | 43 => .array .int
  | 44 => .array .int
  | 45 => .array .int
  | 46 => .array .int
  | 47 => .array .int
  | 48 => .array .int
  | 49 => .array .int
  | 50 => .array .boolean
  | 51 => .array .boolean
  | 52 => .array .int
  | 53 => .array .int
  | 54 => .array .int
  | 55 => .array .boolean
  | 56 => .int
  | 57 => .int
  | _ => .int
theorem xn7 : ∀ a, a < 59 → ∀ b, b < 59 → a ≠ b → (xF7 a).2.1 ≠ (xF7 b).2.1 := by decide +kernel
theorem xt7 : ∀ k, k < 59 → parseFieldDescriptor (xF7 k).2.2.1 = some (xY7 k) := by decide +kernel
set_option maxRecDepth 20000 in
theorem xi7 : ∀ w ∈ u_ws xR7 xF7 59, w ∈ lw_tbl := xmem [1001, 1003, 1005, 1007, 1009, 1011, 1013, 1015, 1017, 1019, 1021, 1023, 1025, 1027, 1029, 1031, 1033, 1035, 1037, 1039, 1041, 1043, 1045, 1047, 1049, 1051, 1053, 1055, 1057, 1059, 1061, 1063, 1065, 1067, 1069, 1071, 1073, 1075, 1077, 1079, 1081, 1083, 1085, 1087, 1089, 1091, 1093, 1095, 1097, 1099, 1101, 1103, 1105, 1107, 1109, 1111, 1113, 1115, 1117] rfl
abbrev xcls : List vw_C := [(xR0, xF0, 2), (xR1, xF1, 2), (xR2, xF2, 14), (xR3, xF3, 14), (xR4, xF4, 15), (xR5, xF5, 12), (xR6, xF6, 6), (xR7, xF7, 59)]
def xcty : List (Nat → FieldType) := [xY0, xY1, xY2, xY3, xY4, xY5, xY6, xY7]
def xshp : List (Nat × Nat × List (Option Nat)) := [(9, 6, [some 1, some 16, some 30, some 43, none, none]),
  (7, 15, [some 2, some 3, some 4, some 5, some 6, some 7, some 8, some 9, some 10, some 11, some 12, some 13, some 14, some 15, none]),
  (0, 24, []),
  (0, 24, []),
  (0, 24, []),
  (2, 24, []),
  (0, 1536, []),
  (0, 1536, []),
  (1, 24, []),
  (0, 12, []),
  (0, 480, []),
  (0, 480, []),
  (0, 480, []),
  (0, 480, []),
  (2, 12, []),
  (0, 200, []),
  (8, 12, [some 1, some 17, some 20, some 21, some 22, some 23, some 24, some 25, some 26, some 27, some 28, some 29]),
  (4, 2, [some 18, some 19]),
  (1, 36, []),
  (0, 36, []),
  (0, 12, []),
  (1, 7872, []),
  (1, 6144, []),
  (1, 12, []),
  (1, 12, []),
  (1, 444, []),
  (1, 4, []),
  (1, 24, []),
  (2, 24, []),
  (2, 24, []),
  (5, 14, [some 1, some 16, some 31, some 34, some 35, some 36, some 37, some 38, some 39, some 40, some 41, none, some 42, none]),
  (3, 2, [some 32, some 33]),
  (0, 7, []),
  (0, 1024, []),
  (0, 24, []),
  (0, 24, []),
  (2, 24, []),
  (2, 24, []),
  (0, 24, []),
  (0, 24, []),
  (0, 24, []),
  (0, 24, []),
  (0, 1728, []),
  (6, 14, [some 1, some 44, some 45, some 46, some 47, some 48, some 49, none, none, none, none, none, none, none]),
  (0, 1728, []),
  (0, 24, []),
  (0, 4, []),
  (0, 16, []),
  (0, 16, []),
  (0, 100, []),
  (10, 59, [none, some 51, some 52, some 53, some 54, some 55, some 56, some 57, some 58, some 59, some 60, some 61, some 62, some 63, none, some 64, some 65, some 66, some 67, some 68, none, none, none, none, none, none, none, none, some 69, some 70, some 71, some 72, some 73, some 74, some 75, some 76, some 77, some 78, some 79, none, some 80, some 81, some 82, some 83, some 84, some 85, some 86, some 87, some 88, some 89, some 90, some 91, some 92, some 93, some 94, some 95, none, none, none]),
  (0, 24, []),
  (0, 24, []),
  (0, 24, []),
  (0, 1536, []),
  (0, 1536, []),
  (2, 24, []),
  (0, 12, []),
  (0, 492, []),
  (0, 492, []),
  (0, 492, []),
  (0, 492, []),
  (2, 12, []),
  (0, 200, []),
  (0, 3072, []),
  (0, 4, []),
  (0, 100, []),
  (0, 16, []),
  (0, 16, []),
  (1, 7872, []),
  (1, 6144, []),
  (1, 192, []),
  (2, 492, []),
  (2, 12, []),
  (2, 1536, []),
  (2, 1536, []),
  (2, 24, []),
  (2, 24, []),
  (1, 16, []),
  (1, 4, []),
  (2, 24, []),
  (2, 12, []),
  (0, 36, []),
  (0, 24, []),
  (0, 12, []),
  (0, 24, []),
  (0, 24, []),
  (0, 24, []),
  (0, 24, []),
  (0, 3072, []),
  (2, 24, []),
  (2, 24, []),
  (0, 24, []),
  (0, 24, []),
  (0, 24, []),
  (2, 24, []),
  (0, 0, []),
  (1, 6, [])]
def xnst : List (String × Nat × MethodName × String) := [("DataShrinker", 11, ⟨"DataShrinker$Program", "<init>", "()V"⟩, "DataShrinker"), ("DataShrinker$Reach", 13, ⟨"DataShrinker$Chains", "<init>", "()V"⟩, "DataShrinker"), ("DataShrinker$Layout", 11, ⟨"DataShrinker$BlockOrder", "<init>", "()V"⟩, "DataShrinker"), ("DataShrinker$Program", 56, ⟨"DataShrinker", "isItemNumber", "(I)Z"⟩, "DataShrinker"), ("DataShrinker$Program", 60, ⟨"DataShrinker", "within", "(III)Z"⟩, "DataShrinker"), ("DataShrinker$Program", 82, ⟨"DataShrinker", "octetOf", "(JI)I"⟩, "DataShrinker"), ("DataShrinker$Program", 64, ⟨"DataShrinker", "isRegister", "(I)Z"⟩, "DataShrinker"), ("DataShrinker$Program", 67, ⟨"DataShrinker", "isFunction", "(I)Z"⟩, "DataShrinker"), ("DataShrinker$Machine", 147, ⟨"DataShrinker", "asNumber", "(Z)I"⟩, "DataShrinker"), ("DataShrinker$Machine", 74, ⟨"DataShrinker", "within", "(III)Z"⟩, "DataShrinker"), ("DataShrinker$Reach", 233, ⟨"DataShrinker", "asNumber", "(Z)I"⟩, "DataShrinker"), ("DataShrinker$Layout", 85, ⟨"DataShrinker", "asNumber", "(Z)I"⟩, "DataShrinker")]
def xhv : Nat → Int64 := fun k => match k with
  | 0 => -6148914691236517206
  | 1 => -3689348814741910324
  | 2 => -1085102592571150096
  | 3 => -71777214294589696
  | 4 => -281470681808896
  | _ => -4294967296
end
section
/-! A small machine over one world of numbered cells: its memory, its frames, what the real heap is to it -/
def xtb : List Cond := lw_tbl.filter goodWord
theorem xtbm {w : Cond} (h : w ∈ lw_tbl) (hg : goodWord w = true) : w ∈ xtb := List.mem_filter.mpr ⟨h, hg⟩
theorem xtb_u {C : String} {T : u_T} {N : Nat} (h : ∀ w ∈ u_ws C T N, w ∈ lw_tbl) : ∀ w ∈ u_ws C T N, w ∈ xtb := by
  intro w hw
  refine xtbm (h w hw) ?_
  obtain ⟨k, -, rfl⟩ := List.mem_map.mp hw
  unfold u_lay
  split <;> rfl
def xNst (U : State) : Prop := ∀ q ∈ xnst, va_Nw (.methodLinkNest q.1 q.2.1 q.2.2.1 q.2.2.2) U
theorem xNst.warm {s U : State} (hW : s.WarmedH U.vm) (h : xNst s) : xNst U := fun q hq => va_Nw.warmM hW (h q hq)
theorem xNst.same {u U : State} (hv : u.vm = U.vm) (h : xNst u) : xNst U := fun q hq => va_Nw.same rfl hv (h q hq)
abbrev xMe : Type := (Nat → Nat → Int32) × (Nat → Nat → Int64)
abbrev xGh : Type := Option (Nat × List (Nat × Nat))
abbrev xG : Type := Nat × Nat × Nat × (Nat → Int32) × Nat × va_G × ClassId × ClassId × ClassId
abbrev xMD : Type := MethodName × ByteArray × Nat × Option FieldType × Room
abbrev xLv : Type := List (Option Value)
abbrev xRw : Type := Nat × Instr × Nat × Nat × Value
abbrev gB (G : xG) : Nat := G.1
abbrev gb (G : xG) : Nat := G.2.1
abbrev gL (G : xG) : Nat := G.2.2.1
abbrev gx (G : xG) : Nat → Int32 := G.2.2.2.1
abbrev gh (G : xG) : Nat := G.2.2.2.2.1
abbrev gD (G : xG) : va_G := G.2.2.2.2.2.1
abbrev gI (G : xG) : ClassId := G.2.2.2.2.2.2.1
abbrev gJ (G : xG) : ClassId := G.2.2.2.2.2.2.2.1
abbrev gZ (G : xG) : ClassId := G.2.2.2.2.2.2.2.2
abbrev yR (Y : xMD) : Room := Y.2.2.2.2
abbrev yL (Y : xMD) : Nat := Y.2.2.1
abbrev yB (Y : xMD) : ByteArray := Y.2.1
abbrev yT (Y : xMD) : Option FieldType := Y.2.2.2.1
def xnth {α : Type} : List α → Nat → α → α
  | [], _, d => d
  | a :: _, 0, _ => a
  | _ :: l, n + 1, d => xnth l n d
def xkd (k : Nat) : Nat := (xnth xshp k (99, 0, [])).1
def xtl (k : Nat) : Nat := (xnth xshp k (99, 0, [])).2.1
def xrf (k : Nat) : List (Option Nat) := (xnth xshp k (99, 0, [])).2.2
def xln (G : xG) (k : Nat) : Nat := match Nat.beq k 96 with
  | true => gL G
  | false => xtl k
def xad (G : xG) (k : Nat) : Nat := if k = 96 then gb G else if k = 97 then gh G else gB G + k
def xcv (G : xG) : Value → Value
  | .ref k => .ref (xad G k)
  | v => v
def xgn : xGh → Nat
  | none => 96
  | some q => q.1
def xin : List (Nat × Nat) → Nat → Nat → Bool
  | [], _, _ => false
  | q :: l, k, j => (Nat.beq q.1 k && Nat.beq q.2 j) || xin l k j
def xis : xGh → Nat → Nat → Bool
  | none, _, _ => true
  | some q, k, j => xin q.2 k j
def xfv (G : xG) (M : xMe) (g : xGh) (k j : Nat) : Value := match xnth (xrf k) j none with
  | none => .int (M.1 k j)
  | some t => if xis g k j = true then .ref (gB G + t) else .null
def xent (G : xG) (M : xMe) (g : xGh) (k : Nat) : va_E := match xkd k with
  | 0 => .inl (gI G, xtl k, .inl (M.1 k))
  | 1 => .inl (gJ G, xtl k, .inr (.inl (M.2 k)))
  | 2 => .inl (gZ G, xtl k, .inl (M.1 k))
  | n + 3 => .inr (n, (List.range (xtl k)).map (xfv G M g k))
def xwl (G : xG) (M : xMe) (g : xGh) : va_W := (List.range (xgn g)).map (fun k => (gB G + k, xent G M g k))
def xsI (M : xMe) (k : Nat) (f : Nat → Int32) : xMe := (fun j => if j = k then f else M.1 j, M.2)
def xsL (M : xMe) (k : Nat) (f : Nat → Int64) : xMe := (M.1, fun j => if j = k then f else M.2 j)
def xA (G : xG) : Nat → Prop := fun q => gB G ≤ q
theorem xwl_get {G : xG} {M : xMe} {g : xGh} {k : Nat} (h : k < xgn g) : (xwl G M g)[k]? = some (gB G + k, xent G M g k) := by
  simp [xwl, h]
theorem xwl_len {G : xG} {M : xMe} {g : xGh} : (xwl G M g).length = xgn g := by simp [xwl]
theorem xwl_at {G : xG} {M : xMe} {g : xGh} {k : Nat} {q : Nat × va_E} (h : (xwl G M g)[k]? = some q) : k < xgn g ∧ q = (gB G + k, xent G M g k) := by
  have hl : k < (xwl G M g).length := (List.getElem?_eq_some_iff.mp h).1
  rw [xwl_len] at hl
  exact ⟨hl, Option.some.inj (h.symm.trans (xwl_get hl))⟩
theorem xwl_D {G : xG} {M : xMe} {g : xGh} : va_D (xA G) (xwl G M g) := by
  refine ⟨fun i j p q hi hj hpq => ?_, fun k q hk => ?_⟩
  · obtain ⟨-, rfl⟩ := xwl_at hi
    obtain ⟨-, rfl⟩ := xwl_at hj
    exact Nat.add_left_cancel hpq
  · obtain ⟨-, rfl⟩ := xwl_at hk
    exact Nat.le_add_right _ _
theorem xwl_set {G : xG} {M M' : xMe} {g g' : xGh} {k : Nat} {a : Nat} {e : va_E} (hg : xgn g' = xgn g) (ha : a = gB G + k) (he : e = xent G M' g' k) (ho : ∀ j, j ≠ k → xent G M' g' j = xent G M g j) : (xwl G M g).set k (a, e) = xwl G M' g' := by
  subst ha; subst he
  apply List.ext_getElem?
  intro i
  by_cases hi : i < xgn g
  · by_cases hk : i = k
    · subst hk
      rw [List.getElem?_set_self (by rw [xwl_len]; exact hi), xwl_get (by rw [hg]; exact hi)]
    · rw [List.getElem?_set_ne (Ne.symm hk), xwl_get hi, xwl_get (by rw [hg]; exact hi), ho i hk]
  · rw [List.getElem?_eq_none (by rw [List.length_set, xwl_len]; omega), List.getElem?_eq_none (by rw [xwl_len, hg]; omega)]
theorem xent_sI {G : xG} {M : xMe} {g : xGh} {k : Nat} {f : Nat → Int32} {j : Nat} (h : j ≠ k) : xent G (xsI M k f) g j = xent G M g j := by
  have e1 : (xsI M k f).1 j = M.1 j := by simp [xsI, h]
  have e2 : (xsI M k f).2 = M.2 := rfl
  have e3 : xfv G (xsI M k f) g j = xfv G M g j := by funext i; simp only [xfv, e1]
  unfold xent
  rw [e1, e2, e3]
theorem xent_sL {G : xG} {M : xMe} {g : xGh} {k : Nat} {f : Nat → Int64} {j : Nat} (h : j ≠ k) : xent G (xsL M k f) g j = xent G M g j := by
  have e1 : (xsL M k f).2 j = M.2 j := by simp [xsL, h]
  have e2 : (xsL M k f).1 = M.1 := rfl
  have e3 : xfv G (xsL M k f) g j = xfv G M g j := by funext i; simp only [xfv, e2]
  unfold xent
  rw [e1, e2, e3]
theorem xad_lt {G : xG} {k : Nat} (h : k < 96) : xad G k = gB G + k := by
  unfold xad
  rw [if_neg (by omega), if_neg (by omega)]
theorem xent_i {G : xG} {M : xMe} {g : xGh} {k : Nat} (h : xkd k = 0) : xent G M g k = .inl (gI G, xtl k, .inl (M.1 k)) := by unfold xent; rw [h]
theorem xent_l {G : xG} {M : xMe} {g : xGh} {k : Nat} (h : xkd k = 1) : xent G M g k = .inl (gJ G, xtl k, .inr (.inl (M.2 k))) := by unfold xent; rw [h]
theorem xent_z {G : xG} {M : xMe} {g : xGh} {k : Nat} (h : xkd k = 2) : xent G M g k = .inl (gZ G, xtl k, .inl (M.1 k)) := by unfold xent; rw [h]
theorem xent_o {G : xG} {M : xMe} {g : xGh} {k n : Nat} (h : xkd k = n + 3) : xent G M g k = .inr (n, (List.range (xtl k)).map (xfv G M g k)) := by unfold xent; rw [h]
theorem xsI_s {M : xMe} {k : Nat} {f : Nat → Int32} : (xsI M k f).1 k = f := by simp [xsI]
theorem xsL_s {M : xMe} {k : Nat} {f : Nat → Int64} : (xsL M k f).2 k = f := by simp [xsL]
/-- what the real heap is to the small memory -/
def xRp (G : xG) (M : xMe) (g : xGh) (U : State) (H : Heap) : Prop :=
  va_K (gD G) xcls [(gI G, .int), (gJ G, .long), (gZ G, .boolean)] U ∧ va_P (gD G) xcls (xwl G M g) H ∧ va_X (gb G) (gL G) (gx G) U H ∧ gb G < gB G ∧ va_Z "DataShrinker$OctetSet" "HAVING" "[J" (.ref (gh G)) (xA G) U H ∧ va_T .long (gh G) 6 (fun j => .long (xhv j)) (xA G) U H
theorem xRp.moved {G : xG} {M : xMe} {g : xGh} {u U : State} {H : Heap} (hvm : u.vm.Alike U.vm) (h : xRp G M g u H) : xRp G M g U H := by
  obtain ⟨h1, h2, h4, h5, h6, h7⟩ := h
  exact ⟨va_K.moved hvm h1, h2, va_X.moved hvm h4, h5, va_Z.moved hvm h6, va_T.moved hvm h7⟩
/-- a store into the world: the rest of what is known stays -/
theorem xRp.upd {G : xG} {M M' : xMe} {g g' : xGh} {s : State} {H H1 : Heap} (h : xRp G M g s H) (hP : va_P (gD G) xcls (xwl G M' g') H1) (ho : ∀ q : Nat, q < H.size → ¬ xA G q → H1[q]? = H[q]?) : xRp G M' g' s H1 := by
  obtain ⟨h1, h2, h4, h5, h6, h7⟩ := h
  have hb : gb G < H.size := by
    obtain ⟨scr, hs, -⟩ := h4
    exact (Array.getElem?_eq_some_iff.mp hs).1
  exact ⟨h1, hP, h4.kept (ho _ hb (Nat.not_le.mpr h5)), h5, h6.kept ho, h7.kept ho⟩
/-- while the world is being made: how many cells there are -/
def xSz (G : xG) (g : xGh) (n : Nat) : Prop := match g with
  | none => True
  | some q => n = gB G + q.1
def xQc (G : xG) (Q : Option Value → xMe → xGh → Prop) : Array Value → State → Outcome → State → Prop := fun _ st o t => (∃ (r : Option Value) (M : xMe) (g : xGh), o = .returned (r.map (xcv G)) ∧ Q r M g ∧ xRp G M g t t.heap) ∧ va_F (xA G) st t
def xCx (G : xG) (Y : xMD) (p : Program) (s : State) (m : MethodId) (args : Array Value) (meth : Method) (c : Code) : Prop :=
  p.tables.exec = Jvm.exec ∧ c.code = yB Y ∧ meth.sig.returnType = yT Y ∧ c.maxLocals = yL Y ∧ s.vm.findClass Y.1.cls = some m.cls ∧ (∀ w ∈ xtb, w.before args s = true) ∧ meth.locks = false ∧ meth.name = Y.1.name ∧ gB G ≤ s.heap.size ∧ xNst s
def xlg : xLv → Nat → Option Value
  | [], _ => none
  | a :: _, 0 => a
  | _ :: l, n + 1 => xlg l n
def xLs (G : xG) (ls : Array Slot) (nL : Nat) (lv : xLv) : Prop := ls.size = nL ∧ lv_wf ls ∧ ∀ (i : Nat) (v : Value), xlg lv i = some v → ls[i]? = some (.val (xcv G v))
/-- from this frame on, the method comes to its end with Q -/
def xC (l : Launch) (G : xG) (Y : xMD) (pc : Nat) (lv : xLv) (st : List Value) (M : xMe) (g : xGh) (cn sn : Nat) (Q : Option Value → xMe → xGh → Prop) : Prop :=
  ∀ (p : Program) (e : Env) (s : State) (m : MethodId) (args : Array Value) (below : List Frame) (meth : Method) (c : Code), xCx G Y p s m args meth c → xSz G g (s.heap.size + cn) →
    ∀ (H : Heap) (locs : List Loc) (ls : Array Slot), xRp G M g s H → va_S (xA G) s.heap H locs → xLs G ls (yL Y) lv →
      W p l e (yR Y) s m args below meth c H locs cn sn (MQ below (xQc G Q) args s (yR Y).cells (yR Y).slots (xA G)) (F0 m pc ls (st.map (xcv G)))
def xPr (G : xG) (M : xMe) (g : xGh) (U : State) : Prop := xRp G M g U U.heap ∧ gB G ≤ U.heap.size ∧ xSz G g U.heap.size ∧ xNst U
def xws (Y : xMD) : List Cond := .code Y.1 (yB Y) (yL Y) (yT Y) :: xtb
/-- a method's contract: from these arguments and this memory it returns, with Q -/
def xT (l : Launch) (G : xG) (Y : xMD) (a : List Value) (M : xMe) (g : xGh) (Q : Option Value → xMe → xGh → Prop) : Prop :=
  Met l Y.1 (xws Y) (yR Y) (va_Pc (a.map (xcv G)) (xPr G M g)) (xQc G Q) (yR Y).cells (yR Y).slots (xA G)
def xarg : List Value → xLv
  | [] => []
  | v :: l => match v.category with
    | 2 => some v :: none :: xarg l
    | _ => some v :: xarg l
theorem xcv_cat {G : xG} (v : Value) : (xcv G v).category = v.category := by cases v <;> rfl
theorem xarg_get {G : xG} : ∀ (a : List Value) (n : Nat) (i : Nat) (v : Value), xlg (xarg a) i = some v → (i + n, xcv G v) ∈ lv_args n (a.map (xcv G))
  | [], n, i, v, h => by simp [xarg, xlg] at h
  | w :: a, n, i, v, h => by
    have hc := xcv_cat (G := G) w
    rw [List.map_cons, lv_args]
    unfold xarg at h
    rcases lv_cat w with q | q
    · rw [q] at h hc
      cases i with
      | zero =>
        simp only [xlg] at h
        cases h
        simp
      | succ i =>
        simp only [xlg] at h
        have := xarg_get (G := G) a (n + 1) i v h
        simp [hc]
        rw [show i + 1 + n = i + (n + 1) by omega]
        exact this
    · rw [q] at h hc
      match i, h with
      | 0, h =>
        simp only [xlg] at h
        cases h
        simp
      | 1, h => simp [xlg] at h
      | i + 2, h =>
        simp only [xlg] at h
        have := xarg_get (G := G) a (n + 2) i v h
        simp [hc]
        rw [show i + 2 + n = i + (n + 2) by omega]
        exact this
end
section
/-! One step of the small machine as what must hold before it; many steps; they are sound over the real one -/
def xkl : Option Value → Option Value
  | some v => match v.category with
    | 2 => none
    | _ => some v
  | none => none
def xs1 : xLv → Nat → Value → xLv
  | [], _, _ => []
  | _ :: l, 0, v => some v :: l
  | a :: l, n + 1, v => (match n with | 0 => xkl a | _ + 1 => a) :: xs1 l n v
def xhd : xLv → xLv
  | [] => []
  | _ :: l => none :: l
def xs2 : xLv → Nat → Value → xLv
  | [], _, _ => []
  | _ :: l, 0, v => some v :: xhd l
  | a :: l, n + 1, v => (match n with | 0 => xkl a | _ + 1 => a) :: xs2 l n v
/-- the same with the rest of the run behind it, so that lists come out written -/
def xkk : Option Value → Nat → (Option Value → Prop) → Prop
  | some v, 0, k => (match v.category with | 2 => k none | _ => k (some v))
  | none, 0, k => k none
  | a, _ + 1, k => k a
def xp1 : xLv → Nat → Value → (xLv → Prop) → Prop
  | [], _, _, k => k []
  | _ :: l, 0, v, k => k (some v :: l)
  | a :: l, n + 1, v, k => xkk a n (fun a' => xp1 l n v (fun l' => k (a' :: l')))
def xq2 : xLv → Value → (xLv → Prop) → Prop
  | [], v, k => k [some v]
  | _ :: l, v, k => k (some v :: none :: l)
def xp2 : xLv → Nat → Value → (xLv → Prop) → Prop
  | [], _, _, k => k []
  | _ :: l, 0, v, k => xq2 l v k
  | a :: l, n + 1, v, k => xkk a n (fun a' => xp2 l n v (fun l' => k (a' :: l')))
theorem xkk_eq (a : Option Value) (n : Nat) (k : Option Value → Prop) : xkk a n k ↔ k (match n with | 0 => xkl a | _ + 1 => a) := by
  cases n with
  | zero =>
    cases a with
    | none => exact Iff.rfl
    | some v =>
      unfold xkk xkl
      rcases lv_cat v with q | q <;> simp only [q]
  | succ n => cases a <;> exact Iff.rfl
theorem xp1_eq : ∀ (lv : xLv) (i : Nat) (v : Value) (k : xLv → Prop), xp1 lv i v k ↔ k (xs1 lv i v)
  | [], _, _, _ => Iff.rfl
  | _ :: _, 0, _, _ => Iff.rfl
  | a :: l, n + 1, v, k => by
    unfold xp1 xs1
    rw [xkk_eq]
    exact xp1_eq l n v _
theorem xp2_eq : ∀ (lv : xLv) (i : Nat) (v : Value) (k : xLv → Prop), xp2 lv i v k ↔ k (xs2 lv i v)
  | [], _, _, _ => Iff.rfl
  | [_], 0, _, _ => Iff.rfl
  | _ :: _ :: _, 0, _, _ => Iff.rfl
  | a :: l, n + 1, v, k => by
    unfold xp2 xs2
    rw [xkk_eq]
    exact xp2_eq l n v _
/-- the kit's list of what the variables hold -/
def xas (G : xG) : Nat → xLv → List (Nat × Value)
  | _, [] => []
  | i, none :: l => xas G (i + 1) l
  | i, some v :: l => (i, xcv G v) :: xas G (i + 1) l
theorem xas_in {G : xG} : ∀ (lv : xLv) (i : Nat) (q : Nat × Value), q ∈ xas G i lv → ∃ (j : Nat) (v : Value), q = (i + j, xcv G v) ∧ xlg lv j = some v
  | [], i, q, h => by simp [xas] at h
  | none :: l, i, q, h => by
    obtain ⟨j, v, h1, h2⟩ := xas_in l (i + 1) q h
    exact ⟨j + 1, v, by rw [h1]; congr 1; omega, h2⟩
  | some w :: l, i, q, h => by
    rcases List.mem_cons.mp h with h | h
    · exact ⟨0, w, h, rfl⟩
    · obtain ⟨j, v, h1, h2⟩ := xas_in l (i + 1) q h
      exact ⟨j + 1, v, by rw [h1]; congr 1; omega, h2⟩
theorem xin_as {G : xG} : ∀ (lv : xLv) (i j : Nat) (v : Value), xlg lv j = some v → (i + j, xcv G v) ∈ xas G i lv
  | [], i, j, v, h => by simp [xlg] at h
  | none :: l, i, 0, v, h => by simp [xlg] at h
  | none :: l, i, j + 1, v, h => by
    have := xin_as (G := G) l (i + 1) j v h
    rw [show i + 1 + j = i + (j + 1) by omega] at this
    exact this
  | some w :: l, i, 0, v, h => by
    simp only [xlg] at h
    cases h
    exact List.mem_cons_self
  | some w :: l, i, j + 1, v, h => by
    have := xin_as (G := G) l (i + 1) j v h
    rw [show i + 1 + j = i + (j + 1) by omega] at this
    exact List.mem_cons_of_mem _ this
theorem xLs.has {G : xG} {ls : Array Slot} {nL : Nat} {lv : xLv} (h : xLs G ls nL lv) : lv_has ls nL (xas G 0 lv) := by
  refine ⟨h.1, h.2.1, fun q hq => ?_⟩
  obtain ⟨j, v, rfl, hv⟩ := xas_in lv 0 q hq
  rw [Nat.zero_add]
  exact h.2.2 j v hv
theorem xlg_s1 : ∀ (lv : xLv) (i : Nat) (v : Value) (j : Nat) (w : Value), xlg (xs1 lv i v) j = some w → (j = i ∧ w = v) ∨ (j ≠ i ∧ ¬ (j + 1 = i ∧ w.category = 2) ∧ xlg lv j = some w)
  | [], _, _, _, _, h => by simp [xs1, xlg] at h
  | a :: l, 0, v, 0, w, h => by
    simp only [xs1, xlg] at h
    cases h
    exact Or.inl ⟨rfl, rfl⟩
  | a :: l, 0, v, j + 1, w, h => Or.inr ⟨by omega, fun q => by omega, h⟩
  | a :: l, n + 1, v, 0, w, h => by
    refine Or.inr ⟨by omega, fun q => ?_, ?_⟩
    · have hn : n = 0 := by omega
      subst hn
      simp only [xs1, xlg] at h
      cases a with
      | none => simp [xkl] at h
      | some u =>
        unfold xkl at h
        rcases lv_cat u with z | z
        · simp only [z] at h
          cases h
          omega
        · simp only [z] at h
          cases h
    · cases n with
      | zero =>
        simp only [xs1, xlg] at h ⊢
        cases a with
        | none => simp [xkl] at h
        | some u =>
          unfold xkl at h
          rcases lv_cat u with z | z
          · simp only [z] at h
            exact h
          · simp only [z] at h
            cases h
      | succ n => exact h
  | a :: l, n + 1, v, j + 1, w, h => by
    rcases xlg_s1 l n v j w h with ⟨h1, h2⟩ | ⟨h1, h2, h3⟩
    · exact Or.inl ⟨by omega, h2⟩
    · exact Or.inr ⟨by omega, fun q => h2 ⟨by omega, q.2⟩, h3⟩
theorem xlg_s2 : ∀ (lv : xLv) (i : Nat) (v : Value) (j : Nat) (w : Value), xlg (xs2 lv i v) j = some w → (j = i ∧ w = v) ∨ (j ≠ i ∧ j ≠ i + 1 ∧ ¬ (j + 1 = i ∧ w.category = 2) ∧ xlg lv j = some w)
  | [], _, _, _, _, h => by simp [xs2, xlg] at h
  | a :: l, 0, v, 0, w, h => by
    simp only [xs2, xlg] at h
    cases h
    exact Or.inl ⟨rfl, rfl⟩
  | [a], 0, v, j + 1, w, h => by simp [xs2, xhd, xlg] at h
  | a :: b :: l, 0, v, 1, w, h => by simp [xs2, xhd, xlg] at h
  | a :: b :: l, 0, v, j + 2, w, h => Or.inr ⟨by omega, by omega, fun q => by omega, h⟩
  | a :: l, n + 1, v, 0, w, h => by
    refine Or.inr ⟨by omega, by omega, fun q => ?_, ?_⟩
    · have hn : n = 0 := by omega
      subst hn
      simp only [xs2, xlg] at h
      cases a with
      | none => simp [xkl] at h
      | some u =>
        unfold xkl at h
        rcases lv_cat u with z | z
        · simp only [z] at h
          cases h
          omega
        · simp only [z] at h
          cases h
    · cases n with
      | zero =>
        simp only [xs2, xlg] at h ⊢
        cases a with
        | none => simp [xkl] at h
        | some u =>
          unfold xkl at h
          rcases lv_cat u with z | z
          · simp only [z] at h
            exact h
          · simp only [z] at h
            cases h
      | succ n => exact h
  | a :: l, n + 1, v, j + 1, w, h => by
    rcases xlg_s2 l n v j w h with ⟨h1, h2⟩ | ⟨h1, h2, h3, h4⟩
    · exact Or.inl ⟨by omega, h2⟩
    · exact Or.inr ⟨by omega, by omega, fun q => h3 ⟨by omega, q.2⟩, h4⟩
theorem xLs.put1 {G : xG} {ls : Array Slot} {nL : Nat} {lv : xLv} {i : Nat} {v : Value} (h : lv_has ls nL ((i, xcv G v) :: (xas G 0 lv).filter (fun q => !(q.1 == i) && !(q.1 + 1 == i && q.2.category == 2)))) : xLs G ls nL (xs1 lv i v) := by
  refine ⟨h.1, h.2.1, fun j w hj => ?_⟩
  rcases xlg_s1 lv i v j w hj with ⟨rfl, rfl⟩ | ⟨h1, h2, h3⟩
  · exact h.2.2 _ List.mem_cons_self
  · have hm := xin_as (G := G) lv 0 j w h3
    rw [Nat.zero_add] at hm
    refine h.2.2 (j, xcv G w) (List.mem_cons_of_mem _ (List.mem_filter.mpr ⟨hm, ?_⟩))
    simp only [xcv_cat]
    simp
    exact ⟨h1, by omega⟩
theorem xLs.put2 {G : xG} {ls : Array Slot} {nL : Nat} {lv : xLv} {i : Nat} {v : Value} (h : lv_has ls nL ((i, xcv G v) :: (xas G 0 lv).filter (fun q => !(q.1 == i) && (!(q.1 == i + 1) && !(q.1 + 1 == i && q.2.category == 2))))) : xLs G ls nL (xs2 lv i v) := by
  refine ⟨h.1, h.2.1, fun j w hj => ?_⟩
  rcases xlg_s2 lv i v j w hj with ⟨rfl, rfl⟩ | ⟨h1, h1', h2, h3⟩
  · exact h.2.2 _ List.mem_cons_self
  · have hm := xin_as (G := G) lv 0 j w h3
    rw [Nat.zero_add] at hm
    refine h.2.2 (j, xcv G w) (List.mem_cons_of_mem _ (List.mem_filter.mpr ⟨hm, ?_⟩))
    simp only [xcv_cat]
    simp
    exact ⟨h1, h1', by omega⟩
theorem xlg_lt {G : xG} {ls : Array Slot} {nL : Nat} {lv : xLv} (h : xLs G ls nL lv) {i : Nat} {v : Value} (hi : xlg lv i = some v) : i < nL := by
  have := lv_lt (h.2.2 i v hi)
  rw [h.1] at this
  exact this
def xjmp : List xRw → Nat → List xRw
  | [], _ => []
  | r :: rs, t => match Nat.beq r.1 t with
    | true => r :: rs
    | false => xjmp rs t
/-- the cases of a switch, one behind the other -/
def xsw (x : Int32) (k : Int → Prop) (d : Int) : List (Int × Int) → Prop
  | [] => k d
  | q :: l => (x = Int32.ofInt q.1 → k q.2) ∧ (¬ x = Int32.ofInt q.1 → xsw x k d l)
def xtab : Int → List Int → List (Int × Int)
  | _, [] => []
  | i, o :: l => (i, o) :: xtab (i + 1) l
def xstp (G : xG) (all : List xRw) (pc : Nat) (ins : Instr) (a1 a2 : Nat) (v : Value) (nL : Nat) (rs : List xRw) (lv : xLv) (st : List Value) (M : xMe) (K : List xRw → xLv → List Value → xMe → Prop) : Prop :=
  match ins with
  | .iconst _ | .bipush _ | .sipush _ | .lconst _ | .ldc _ | .ldc_w _ | .ldc2_w _ => K rs lv (v :: st) M
  | .iload _ | .iload_n _ => (match xlg lv a1 with | some (.int x) => K rs lv (.int x :: st) M | _ => False)
  | .lload _ | .lload_n _ => (match xlg lv a1 with | some (.long x) => K rs lv (.long x :: st) M | _ => False)
  | .aload _ | .aload_n _ => (match xlg lv a1 with | some (.ref x) => K rs lv (.ref x :: st) M | _ => False)
  | .istore _ | .istore_n _ => (match Nat.blt a1 nL, st with | true, .int x :: r => xp1 lv a1 (.int x) (fun lv' => K rs lv' r M) | _, _ => False)
  | .lstore _ | .lstore_n _ => (match Nat.blt (a1 + 1) nL, st with | true, .long x :: r => xp2 lv a1 (.long x) (fun lv' => K rs lv' r M) | _, _ => False)
  | .astore _ | .astore_n _ => (match Nat.blt a1 nL, st with | true, .ref x :: r => xp1 lv a1 (.ref x) (fun lv' => K rs lv' r M) | _, _ => False)
  | .iinc _ _ => (match xlg lv a1, v with | some (.int x), .int c => xp1 lv a1 (.int (x + c)) (fun lv' => K rs lv' st M) | _, _ => False)
  | .iadd => (match st with | .int y :: .int x :: r => K rs lv (.int (x + y) :: r) M | _ => False)
  | .isub => (match st with | .int y :: .int x :: r => K rs lv (.int (x - y) :: r) M | _ => False)
  | .imul => (match st with | .int y :: .int x :: r => K rs lv (.int (x * y) :: r) M | _ => False)
  | .iand => (match st with | .int y :: .int x :: r => K rs lv (.int (x &&& y) :: r) M | _ => False)
  | .ior => (match st with | .int y :: .int x :: r => K rs lv (.int (x ||| y) :: r) M | _ => False)
  | .ixor => (match st with | .int y :: .int x :: r => K rs lv (.int (x ^^^ y) :: r) M | _ => False)
  | .idiv => (match st with | .int y :: .int x :: r => ¬ y = 0 ∧ K rs lv (.int (x / y) :: r) M | _ => False)
  | .irem => (match st with | .int y :: .int x :: r => ¬ y = 0 ∧ K rs lv (.int (x - x / y * y) :: r) M | _ => False)
  | .ineg => (match st with | .int x :: r => K rs lv (.int (-x) :: r) M | _ => False)
  | .ishl => (match st with | .int y :: .int x :: r => K rs lv (.int (x <<< (y &&& 31)) :: r) M | _ => False)
  | .ishr => (match st with | .int y :: .int x :: r => K rs lv (.int (x >>> (y &&& 31)) :: r) M | _ => False)
  | .iushr => (match st with | .int y :: .int x :: r => K rs lv (.int (x.toUInt32 >>> (y.toUInt32 &&& Int32.toUInt32 31)).toInt32 :: r) M | _ => False)
  | .ladd => (match st with | .long y :: .long x :: r => K rs lv (.long (x + y) :: r) M | _ => False)
  | .lsub => (match st with | .long y :: .long x :: r => K rs lv (.long (x - y) :: r) M | _ => False)
  | .land => (match st with | .long y :: .long x :: r => K rs lv (.long (x &&& y) :: r) M | _ => False)
  | .lor => (match st with | .long y :: .long x :: r => K rs lv (.long (x ||| y) :: r) M | _ => False)
  | .lxor => (match st with | .long y :: .long x :: r => K rs lv (.long (x ^^^ y) :: r) M | _ => False)
  | .lshl => (match st with | .int y :: .long x :: r => K rs lv (.long (x <<< (y.toInt64 &&& 63)) :: r) M | _ => False)
  | .lshr => (match st with | .int y :: .long x :: r => K rs lv (.long (x >>> (y.toInt64 &&& 63)) :: r) M | _ => False)
  | .lushr => (match st with | .int y :: .long x :: r => K rs lv (.long (x.toUInt64 >>> (y.toInt64.toUInt64 &&& Int64.toUInt64 63)).toInt64 :: r) M | _ => False)
  | .lcmp => (match st with | .long y :: .long x :: r => K rs lv (.int (lg_cmp x y) :: r) M | _ => False)
  | .i2l => (match st with | .int x :: r => K rs lv (.long x.toInt64 :: r) M | _ => False)
  | .l2i => (match st with | .long x :: r => K rs lv (.int x.toInt32 :: r) M | _ => False)
  | .dup => (match st with | .int x :: r => K rs lv (.int x :: .int x :: r) M | .ref x :: r => K rs lv (.ref x :: .ref x :: r) M | _ => False)
  | .dup2 => (match st with | .int x :: .ref y :: r => K rs lv (.int x :: .ref y :: .int x :: .ref y :: r) M | .long x :: r => K rs lv (.long x :: .long x :: r) M | _ => False)
  | .pop => (match st with | .int _ :: r => K rs lv r M | _ => False)
  | .ifCond c _ => (match st with
    | .int x :: r => (match c with
      | .eq => (x = 0 → K (xjmp all a1) lv r M) ∧ (¬ x = 0 → K rs lv r M)
      | .ne => (¬ x = 0 → K (xjmp all a1) lv r M) ∧ (x = 0 → K rs lv r M)
      | .lt => (x < 0 → K (xjmp all a1) lv r M) ∧ (¬ x < 0 → K rs lv r M)
      | .ge => (¬ x < 0 → K (xjmp all a1) lv r M) ∧ (x < 0 → K rs lv r M)
      | .gt => (0 < x → K (xjmp all a1) lv r M) ∧ (¬ 0 < x → K rs lv r M)
      | .le => (¬ 0 < x → K (xjmp all a1) lv r M) ∧ (0 < x → K rs lv r M))
    | _ => False)
  | .if_icmp c _ => (match st with
    | .int y :: .int x :: r => (match c with
      | .eq => (x = y → K (xjmp all a1) lv r M) ∧ (¬ x = y → K rs lv r M)
      | .ne => (¬ x = y → K (xjmp all a1) lv r M) ∧ (x = y → K rs lv r M)
      | .lt => (x < y → K (xjmp all a1) lv r M) ∧ (¬ x < y → K rs lv r M)
      | .ge => (¬ x < y → K (xjmp all a1) lv r M) ∧ (x < y → K rs lv r M)
      | .gt => (y < x → K (xjmp all a1) lv r M) ∧ (¬ y < x → K rs lv r M)
      | .le => (¬ y < x → K (xjmp all a1) lv r M) ∧ (y < x → K rs lv r M))
    | _ => False)
  | .goto _ => K (xjmp all a1) lv st M
  | .tableswitch d lo _ offs => (match st with | .int x :: r => xsw x (fun o => K (xjmp all ((pc : Int) + o).toNat) lv r M) d (xtab lo offs.toList) | _ => False)
  | .lookupswitch d ps => (match st with | .int x :: r => xsw x (fun o => K (xjmp all ((pc : Int) + o).toNat) lv r M) d ps.toList | _ => False)
  | .getfield _ => (match st with
    | .ref k :: r => (match Nat.beq (xkd k) (a2 + 3), xnth (xrf k) a1 none with
      | true, none => K rs lv (.int (M.1 k a1) :: r) M
      | true, some t => K rs lv (.ref t :: r) M
      | _, _ => False)
    | _ => False)
  | .putfield _ => (match st with
    | .int x :: .ref k :: r => (match Nat.beq (xkd k) (a2 + 3), xnth (xrf k) a1 none, v with
      | true, none, .int _ => K rs lv r (xsI M k (upd (M.1 k) a1 x))
      | true, none, .long _ => (x = 0 ∨ x = 1) ∧ K rs lv r (xsI M k (upd (M.1 k) a1 x))
      | _, _, _ => False)
    | _ => False)
  | .getstatic _ => K rs lv (.ref 97 :: st) M
  | .arraylength => (match st with | .ref k :: r => (match Nat.blt (xkd k) 3 with | true => K rs lv (.int (Int32.ofNat (xln G k)) :: r) M | false => False) | _ => False)
  | .iaload => (match st with
    | .int i :: .ref k :: r => (match Nat.beq (xkd k) 0, Nat.beq k 96 with
      | true, true => vp_in i (gL G) ∧ K rs lv (.int (gx G i.toNatClampNeg) :: r) M
      | true, false => vp_in i (xtl k) ∧ K rs lv (.int (M.1 k i.toNatClampNeg) :: r) M
      | _, _ => False)
    | _ => False)
  | .laload => (match st with
    | .int i :: .ref k :: r => (match Nat.beq (xkd k) 1, Nat.beq k 97 with
      | true, true => vp_in i 6 ∧ K rs lv (.long (xhv i.toNatClampNeg) :: r) M
      | true, false => vp_in i (xtl k) ∧ K rs lv (.long (M.2 k i.toNatClampNeg) :: r) M
      | _, _ => False)
    | _ => False)
  | .baload => (match st with
    | .int i :: .ref k :: r => (match Nat.beq (xkd k) 2 with
      | true => vp_in i (xtl k) ∧ K rs lv (.int (M.1 k i.toNatClampNeg) :: r) M
      | false => False)
    | _ => False)
  | .iastore => (match st with
    | .int x :: .int i :: .ref k :: r => (match Nat.beq (xkd k) 0, Nat.blt k 96 with
      | true, true => vp_in i (xtl k) ∧ K rs lv r (xsI M k (upd (M.1 k) i.toNatClampNeg x))
      | _, _ => False)
    | _ => False)
  | .lastore => (match st with
    | .long x :: .int i :: .ref k :: r => (match Nat.beq (xkd k) 1, Nat.blt k 96 with
      | true, true => vp_in i (xtl k) ∧ K rs lv r (xsL M k (vp_updL (M.2 k) i.toNatClampNeg x))
      | _, _ => False)
    | _ => False)
  | .bastore => (match st with
    | .int x :: .int i :: .ref k :: r => (match Nat.beq (xkd k) 2, Nat.blt k 96 with
      | true, true => vp_in i (xtl k) ∧ (x = 0 ∨ x = 1) ∧ K rs lv r (xsI M k (upd (M.1 k) i.toNatClampNeg x))
      | _, _ => False)
    | _ => False)
  | _ => False
def xcr : Instr → Bool
  | .invokevirtual _ => true
  | .invokestatic _ => true
  | .invokespecial _ => true
  | .ireturn => true
  | .lreturn => true
  | .return_ => true
  | _ => false
def xmb : List Nat → Nat → Bool
  | [], _ => false
  | a :: l, k => match Nat.beq a k with
    | true => true
    | false => xmb l k
/-- many steps: up to a call, a return, or a place of 'stops' -/
def xwp (G : xG) (nL : Nat) (all : List xRw) (stops : List Nat) : Nat → List xRw → xLv → List Value → xMe → (Nat → xLv → List Value → xMe → Prop) → Prop
  | 0, r :: _ :: _, lv, st, M, K => K r.1 lv st M
  | n + 1, (pc, ins, a1, a2, v) :: r2 :: rs, lv, st, M, K => match xcr ins with
    | true => K pc lv st M
    | false => xstp G all pc ins a1 a2 v nL (r2 :: rs) lv st M (fun rs' lv' st' M' => match rs' with
      | [] => False
      | (pc', q) :: rs'' => (match xmb stops pc' with
        | true => K pc' lv' st' M'
        | false => xwp G nL all stops n ((pc', q) :: rs'') lv' st' M' K))
  | _, _, _, _, _, _ => False
end
section
/-! A row for each instruction: the kit's rows over the small machine -/
section XI
variable {l : Launch} {G : xG} {Y : xMD} {pc : Nat} {lv : xLv} {st r : List Value} {M : xMe} {g : xGh} {cn sn : Nat} {Q : Option Value → xMe → xGh → Prop}
theorem xc_iadd {x y : Int32} (hd : decode (yB Y) pc = .ok (.iadd, 1)) (h : xC l G Y (pc + 1) lv (.int (x + y) :: r) M g cn sn Q) : xC l G Y pc lv (.int y :: .int x :: r) M g cn sn Q := fun p e s m args below meth c hx hz H locs ls hR hS hl => lv_iadd hx.1 hx.2.1 hd (h p e s m args below meth c hx hz H locs ls hR hS hl)
theorem xc_isub {x y : Int32} (hd : decode (yB Y) pc = .ok (.isub, 1)) (h : xC l G Y (pc + 1) lv (.int (x - y) :: r) M g cn sn Q) : xC l G Y pc lv (.int y :: .int x :: r) M g cn sn Q := fun p e s m args below meth c hx hz H locs ls hR hS hl => lv_isub hx.1 hx.2.1 hd (h p e s m args below meth c hx hz H locs ls hR hS hl)
theorem xc_imul {x y : Int32} (hd : decode (yB Y) pc = .ok (.imul, 1)) (h : xC l G Y (pc + 1) lv (.int (x * y) :: r) M g cn sn Q) : xC l G Y pc lv (.int y :: .int x :: r) M g cn sn Q := fun p e s m args below meth c hx hz H locs ls hR hS hl => lv_imul hx.1 hx.2.1 hd (h p e s m args below meth c hx hz H locs ls hR hS hl)
theorem xc_iand {x y : Int32} (hd : decode (yB Y) pc = .ok (.iand, 1)) (h : xC l G Y (pc + 1) lv (.int (x &&& y) :: r) M g cn sn Q) : xC l G Y pc lv (.int y :: .int x :: r) M g cn sn Q := fun p e s m args below meth c hx hz H locs ls hR hS hl => lv_iand hx.1 hx.2.1 hd (h p e s m args below meth c hx hz H locs ls hR hS hl)
theorem xc_ior {x y : Int32} (hd : decode (yB Y) pc = .ok (.ior, 1)) (h : xC l G Y (pc + 1) lv (.int (x ||| y) :: r) M g cn sn Q) : xC l G Y pc lv (.int y :: .int x :: r) M g cn sn Q := fun p e s m args below meth c hx hz H locs ls hR hS hl => lv_ior hx.1 hx.2.1 hd (h p e s m args below meth c hx hz H locs ls hR hS hl)
theorem xc_ixor {x y : Int32} (hd : decode (yB Y) pc = .ok (.ixor, 1)) (h : xC l G Y (pc + 1) lv (.int (x ^^^ y) :: r) M g cn sn Q) : xC l G Y pc lv (.int y :: .int x :: r) M g cn sn Q := fun p e s m args below meth c hx hz H locs ls hR hS hl => lv_ixor hx.1 hx.2.1 hd (h p e s m args below meth c hx hz H locs ls hR hS hl)
theorem xc_ladd {x y : Int64} (hd : decode (yB Y) pc = .ok (.ladd, 1)) (h : xC l G Y (pc + 1) lv (.long (x + y) :: r) M g cn sn Q) : xC l G Y pc lv (.long y :: .long x :: r) M g cn sn Q := fun p e s m args below meth c hx hz H locs ls hR hS hl => lv_ladd hx.1 hx.2.1 hd (h p e s m args below meth c hx hz H locs ls hR hS hl)
theorem xc_lsub {x y : Int64} (hd : decode (yB Y) pc = .ok (.lsub, 1)) (h : xC l G Y (pc + 1) lv (.long (x - y) :: r) M g cn sn Q) : xC l G Y pc lv (.long y :: .long x :: r) M g cn sn Q := fun p e s m args below meth c hx hz H locs ls hR hS hl => lv_lsub hx.1 hx.2.1 hd (h p e s m args below meth c hx hz H locs ls hR hS hl)
theorem xc_land {x y : Int64} (hd : decode (yB Y) pc = .ok (.land, 1)) (h : xC l G Y (pc + 1) lv (.long (x &&& y) :: r) M g cn sn Q) : xC l G Y pc lv (.long y :: .long x :: r) M g cn sn Q := fun p e s m args below meth c hx hz H locs ls hR hS hl => lv_land hx.1 hx.2.1 hd (h p e s m args below meth c hx hz H locs ls hR hS hl)
theorem xc_lor {x y : Int64} (hd : decode (yB Y) pc = .ok (.lor, 1)) (h : xC l G Y (pc + 1) lv (.long (x ||| y) :: r) M g cn sn Q) : xC l G Y pc lv (.long y :: .long x :: r) M g cn sn Q := fun p e s m args below meth c hx hz H locs ls hR hS hl => lv_lor hx.1 hx.2.1 hd (h p e s m args below meth c hx hz H locs ls hR hS hl)
theorem xc_lxor {x y : Int64} (hd : decode (yB Y) pc = .ok (.lxor, 1)) (h : xC l G Y (pc + 1) lv (.long (x ^^^ y) :: r) M g cn sn Q) : xC l G Y pc lv (.long y :: .long x :: r) M g cn sn Q := fun p e s m args below meth c hx hz H locs ls hR hS hl => lv_lxor hx.1 hx.2.1 hd (h p e s m args below meth c hx hz H locs ls hR hS hl)
theorem xc_idiv {x y : Int32} (hne : ¬ y = 0) (hd : decode (yB Y) pc = .ok (.idiv, 1)) (h : xC l G Y (pc + 1) lv (.int (x / y) :: r) M g cn sn Q) : xC l G Y pc lv (.int y :: .int x :: r) M g cn sn Q := fun p e s m args below meth c hx hz H locs ls hR hS hl => lv_idiv hx.1 hx.2.1 hd hne (h p e s m args below meth c hx hz H locs ls hR hS hl)
theorem xc_irem {x y : Int32} (hne : ¬ y = 0) (hd : decode (yB Y) pc = .ok (.irem, 1)) (h : xC l G Y (pc + 1) lv (.int (x - x / y * y) :: r) M g cn sn Q) : xC l G Y pc lv (.int y :: .int x :: r) M g cn sn Q := fun p e s m args below meth c hx hz H locs ls hR hS hl => lv_irem hx.1 hx.2.1 hd hne (h p e s m args below meth c hx hz H locs ls hR hS hl)
theorem xc_ineg {x : Int32} (hd : decode (yB Y) pc = .ok (.ineg, 1)) (h : xC l G Y (pc + 1) lv (.int (-x) :: r) M g cn sn Q) : xC l G Y pc lv (.int x :: r) M g cn sn Q := fun p e s m args below meth c hx hz H locs ls hR hS hl => lv_ineg hx.1 hx.2.1 hd (h p e s m args below meth c hx hz H locs ls hR hS hl)
theorem xc_ishl {x y : Int32} (hd : decode (yB Y) pc = .ok (.ishl, 1)) (h : xC l G Y (pc + 1) lv (.int (x <<< (y &&& 31)) :: r) M g cn sn Q) : xC l G Y pc lv (.int y :: .int x :: r) M g cn sn Q := fun p e s m args below meth c hx hz H locs ls hR hS hl => lv_ishl hx.1 hx.2.1 hd (h p e s m args below meth c hx hz H locs ls hR hS hl)
theorem xc_ishr {x y : Int32} (hd : decode (yB Y) pc = .ok (.ishr, 1)) (h : xC l G Y (pc + 1) lv (.int (x >>> (y &&& 31)) :: r) M g cn sn Q) : xC l G Y pc lv (.int y :: .int x :: r) M g cn sn Q := fun p e s m args below meth c hx hz H locs ls hR hS hl => lv_ishr hx.1 hx.2.1 hd (h p e s m args below meth c hx hz H locs ls hR hS hl)
theorem xc_iushr {x y : Int32} (hd : decode (yB Y) pc = .ok (.iushr, 1)) (h : xC l G Y (pc + 1) lv (.int (x.toUInt32 >>> (y.toUInt32 &&& Int32.toUInt32 31)).toInt32 :: r) M g cn sn Q) : xC l G Y pc lv (.int y :: .int x :: r) M g cn sn Q := fun p e s m args below meth c hx hz H locs ls hR hS hl => lv_iushr hx.1 hx.2.1 hd rfl (h p e s m args below meth c hx hz H locs ls hR hS hl)
theorem xc_lshl {x : Int64} {y : Int32} (hd : decode (yB Y) pc = .ok (.lshl, 1)) (h : xC l G Y (pc + 1) lv (.long (x <<< (y.toInt64 &&& 63)) :: r) M g cn sn Q) : xC l G Y pc lv (.int y :: .long x :: r) M g cn sn Q := fun p e s m args below meth c hx hz H locs ls hR hS hl => lv_lshl hx.1 hx.2.1 hd rfl (h p e s m args below meth c hx hz H locs ls hR hS hl)
theorem xc_lshr {x : Int64} {y : Int32} (hd : decode (yB Y) pc = .ok (.lshr, 1)) (h : xC l G Y (pc + 1) lv (.long (x >>> (y.toInt64 &&& 63)) :: r) M g cn sn Q) : xC l G Y pc lv (.int y :: .long x :: r) M g cn sn Q := fun p e s m args below meth c hx hz H locs ls hR hS hl => lv_lshr hx.1 hx.2.1 hd rfl (h p e s m args below meth c hx hz H locs ls hR hS hl)
theorem xc_lushr {x : Int64} {y : Int32} (hd : decode (yB Y) pc = .ok (.lushr, 1)) (h : xC l G Y (pc + 1) lv (.long (x.toUInt64 >>> (y.toInt64.toUInt64 &&& Int64.toUInt64 63)).toInt64 :: r) M g cn sn Q) : xC l G Y pc lv (.int y :: .long x :: r) M g cn sn Q := fun p e s m args below meth c hx hz H locs ls hR hS hl => lv_lushr hx.1 hx.2.1 hd rfl (h p e s m args below meth c hx hz H locs ls hR hS hl)
theorem xc_lcmp {x y : Int64} (hd : decode (yB Y) pc = .ok (.lcmp, 1)) (h : xC l G Y (pc + 1) lv (.int (lg_cmp x y) :: r) M g cn sn Q) : xC l G Y pc lv (.long y :: .long x :: r) M g cn sn Q := fun p e s m args below meth c hx hz H locs ls hR hS hl => W.lcmp hx.1 hx.2.1 hd (h p e s m args below meth c hx hz H locs ls hR hS hl)
theorem xc_i2l {x : Int32} (hd : decode (yB Y) pc = .ok (.i2l, 1)) (h : xC l G Y (pc + 1) lv (.long x.toInt64 :: r) M g cn sn Q) : xC l G Y pc lv (.int x :: r) M g cn sn Q := fun p e s m args below meth c hx hz H locs ls hR hS hl => lv_i2l hx.1 hx.2.1 hd rfl (h p e s m args below meth c hx hz H locs ls hR hS hl)
theorem xc_l2i {x : Int64} (hd : decode (yB Y) pc = .ok (.l2i, 1)) (h : xC l G Y (pc + 1) lv (.int x.toInt32 :: r) M g cn sn Q) : xC l G Y pc lv (.long x :: r) M g cn sn Q := fun p e s m args below meth c hx hz H locs ls hR hS hl => lv_l2i hx.1 hx.2.1 hd rfl (h p e s m args below meth c hx hz H locs ls hR hS hl)
theorem xc_dup {v : Value} (hv : v.category = 1) (hd : decode (yB Y) pc = .ok (.dup, 1)) (h : xC l G Y (pc + 1) lv (v :: v :: r) M g cn sn Q) : xC l G Y pc lv (v :: r) M g cn sn Q := fun p e s m args below meth c hx hz H locs ls hR hS hl => lv_dup hx.1 hx.2.1 hd (by rw [xcv_cat]; exact hv) (h p e s m args below meth c hx hz H locs ls hR hS hl)
theorem xc_pop {v : Value} (hv : v.category = 1) (hd : decode (yB Y) pc = .ok (.pop, 1)) (h : xC l G Y (pc + 1) lv r M g cn sn Q) : xC l G Y pc lv (v :: r) M g cn sn Q := fun p e s m args below meth c hx hz H locs ls hR hS hl => lv_pop hx.1 hx.2.1 hd (by rw [xcv_cat]; exact hv) (h p e s m args below meth c hx hz H locs ls hR hS hl)
theorem xc_dup2a {v w : Value} (hv : v.category = 1) (hw : w.category = 1) (hd : decode (yB Y) pc = .ok (.dup2, 1)) (h : xC l G Y (pc + 1) lv (v :: w :: v :: w :: r) M g cn sn Q) : xC l G Y pc lv (v :: w :: r) M g cn sn Q := fun p e s m args below meth c hx hz H locs ls hR hS hl => lv_dup2_11 hx.1 hx.2.1 hd (by rw [xcv_cat]; exact hv) (by rw [xcv_cat]; exact hw) (h p e s m args below meth c hx hz H locs ls hR hS hl)
theorem xc_dup2b {v : Value} (hv : v.category = 2) (hd : decode (yB Y) pc = .ok (.dup2, 1)) (h : xC l G Y (pc + 1) lv (v :: v :: r) M g cn sn Q) : xC l G Y pc lv (v :: r) M g cn sn Q := fun p e s m args below meth c hx hz H locs ls hR hS hl => lv_dup2_2 hx.1 hx.2.1 hd (by rw [xcv_cat]; exact hv) (h p e s m args below meth c hx hz H locs ls hR hS hl)
theorem xc_iconst {n : Int} {c : Int32} (hc : Int32.ofInt n = c) (hd : decode (yB Y) pc = .ok (.iconst n, 1)) (h : xC l G Y (pc + 1) lv (.int c :: r) M g cn sn Q) : xC l G Y pc lv r M g cn sn Q := fun p e s m args below meth c hx hz H locs ls hR hS hl => lv_iconst hx.1 hx.2.1 hd hc (h p e s m args below meth c hx hz H locs ls hR hS hl)
theorem xc_bipush {n : Int} {c : Int32} (hc : (Int8.ofInt n).toInt32 = c) (hd : decode (yB Y) pc = .ok (.bipush n, 2)) (h : xC l G Y (pc + 2) lv (.int c :: r) M g cn sn Q) : xC l G Y pc lv r M g cn sn Q := fun p e s m args below meth c hx hz H locs ls hR hS hl => lv_bipush hx.1 hx.2.1 hd hc (h p e s m args below meth c hx hz H locs ls hR hS hl)
theorem xc_sipush {n : Int} {c : Int32} (hc : (Int16.ofInt n).toInt32 = c) (hd : decode (yB Y) pc = .ok (.sipush n, 3)) (h : xC l G Y (pc + 3) lv (.int c :: r) M g cn sn Q) : xC l G Y pc lv r M g cn sn Q := fun p e s m args below meth c hx hz H locs ls hR hS hl => lv_sipush hx.1 hx.2.1 hd hc (h p e s m args below meth c hx hz H locs ls hR hS hl)
theorem xc_lconst {n : Fin 2} {c : Int64} (hc : Int64.ofNat (n : Nat) = c) (hd : decode (yB Y) pc = .ok (.lconst n, 1)) (h : xC l G Y (pc + 1) lv (.long c :: r) M g cn sn Q) : xC l G Y pc lv r M g cn sn Q := fun p e s m args below meth c hx hz H locs ls hR hS hl => lv_lconst hx.1 hx.2.1 hd hc (h p e s m args below meth c hx hz H locs ls hR hS hl)
theorem xc_ldc {i : Nat} {c : Int32} (hc : Cond.constant Y.1.cls i c ∈ xtb) (hd : decode (yB Y) pc = .ok (.ldc i, 2)) (h : xC l G Y (pc + 2) lv (.int c :: r) M g cn sn Q) : xC l G Y pc lv r M g cn sn Q := fun p e s m args below meth c hx hz H locs ls hR hS hl => lv_ldc hx.1 hx.2.1 hx.2.2.2.2.1 (hx.2.2.2.2.2.1 _ hc) hd (h p e s m args below meth c hx hz H locs ls hR hS hl)
theorem xc_ldcw {i : Nat} {c : Int32} (hc : Cond.constant Y.1.cls i c ∈ xtb) (hd : decode (yB Y) pc = .ok (.ldc_w i, 3)) (h : xC l G Y (pc + 3) lv (.int c :: r) M g cn sn Q) : xC l G Y pc lv r M g cn sn Q := fun p e s m args below meth c hx hz H locs ls hR hS hl => lv_ldcw hx.1 hx.2.1 hx.2.2.2.2.1 (hx.2.2.2.2.2.1 _ hc) hd (h p e s m args below meth c hx hz H locs ls hR hS hl)
theorem xc_ldc2 {i : Nat} {c : Int64} (hc : Cond.constantLong Y.1.cls i c ∈ xtb) (hd : decode (yB Y) pc = .ok (.ldc2_w i, 3)) (h : xC l G Y (pc + 3) lv (.long c :: r) M g cn sn Q) : xC l G Y pc lv r M g cn sn Q := fun p e s m args below meth c hx hz H locs ls hR hS hl => lv_ldc2 hx.1 hx.2.1 hx.2.2.2.2.1 (hx.2.2.2.2.2.1 _ hc) hd (h p e s m args below meth c hx hz H locs ls hR hS hl)
theorem xc_iload {i : Nat} {x : Int32} (hi : xlg lv i = some (.int x)) (hd : decode (yB Y) pc = .ok (.iload i, 2)) (h : xC l G Y (pc + 2) lv (.int x :: r) M g cn sn Q) : xC l G Y pc lv r M g cn sn Q := fun p e s m args below meth c hx hz H locs ls hR hS hl => lv_iload hx.1 hx.2.1 hd (hl.2.2 _ _ hi) (h p e s m args below meth c hx hz H locs ls hR hS hl)
theorem xc_iload_n {k : Fin 4} {i : Nat} {x : Int32} (hk : (k : Nat) = i) (hi : xlg lv i = some (.int x)) (hd : decode (yB Y) pc = .ok (.iload_n k, 1)) (h : xC l G Y (pc + 1) lv (.int x :: r) M g cn sn Q) : xC l G Y pc lv r M g cn sn Q := fun p e s m args below meth c hx hz H locs ls hR hS hl => lv_iload_n hx.1 hx.2.1 hd hk (hl.2.2 _ _ hi) (h p e s m args below meth c hx hz H locs ls hR hS hl)
theorem xc_istore {i : Nat} {x : Int32} (hn : i < yL Y) (hd : decode (yB Y) pc = .ok (.istore i, 2)) (h : xC l G Y (pc + 2) (xs1 lv i (.int x)) r M g cn sn Q) : xC l G Y pc lv (.int x :: r) M g cn sn Q := fun p e s m args below meth c hx hz H locs ls hR hS hl => lv_istore hx.1 hx.2.1 hd hl.has hn rfl (fun ls h2 => h p e s m args below meth c hx hz H locs ls hR hS (xLs.put1 h2))
theorem xc_istore_n {k : Fin 4} {i : Nat} {x : Int32} (hk : (k : Nat) = i) (hn : i < yL Y) (hd : decode (yB Y) pc = .ok (.istore_n k, 1)) (h : xC l G Y (pc + 1) (xs1 lv i (.int x)) r M g cn sn Q) : xC l G Y pc lv (.int x :: r) M g cn sn Q := fun p e s m args below meth c hx hz H locs ls hR hS hl => lv_istore_n hx.1 hx.2.1 hd hk hl.has hn rfl (fun ls h2 => h p e s m args below meth c hx hz H locs ls hR hS (xLs.put1 h2))
theorem xc_lload {i : Nat} {x : Int64} (hi : xlg lv i = some (.long x)) (hd : decode (yB Y) pc = .ok (.lload i, 2)) (h : xC l G Y (pc + 2) lv (.long x :: r) M g cn sn Q) : xC l G Y pc lv r M g cn sn Q := fun p e s m args below meth c hx hz H locs ls hR hS hl => lv_lload hx.1 hx.2.1 hd (hl.2.2 _ _ hi) (h p e s m args below meth c hx hz H locs ls hR hS hl)
theorem xc_lload_n {k : Fin 4} {i : Nat} {x : Int64} (hk : (k : Nat) = i) (hi : xlg lv i = some (.long x)) (hd : decode (yB Y) pc = .ok (.lload_n k, 1)) (h : xC l G Y (pc + 1) lv (.long x :: r) M g cn sn Q) : xC l G Y pc lv r M g cn sn Q := fun p e s m args below meth c hx hz H locs ls hR hS hl => lv_lload_n hx.1 hx.2.1 hd hk (hl.2.2 _ _ hi) (h p e s m args below meth c hx hz H locs ls hR hS hl)
theorem xc_lstore {i : Nat} {x : Int64} (hn : i + 1 < yL Y) (hd : decode (yB Y) pc = .ok (.lstore i, 2)) (h : xC l G Y (pc + 2) (xs2 lv i (.long x)) r M g cn sn Q) : xC l G Y pc lv (.long x :: r) M g cn sn Q := fun p e s m args below meth c hx hz H locs ls hR hS hl => lv_lstore hx.1 hx.2.1 hd hl.has hn rfl (fun ls h2 => h p e s m args below meth c hx hz H locs ls hR hS (xLs.put2 h2))
theorem xc_lstore_n {k : Fin 4} {i : Nat} {x : Int64} (hk : (k : Nat) = i) (hn : i + 1 < yL Y) (hd : decode (yB Y) pc = .ok (.lstore_n k, 1)) (h : xC l G Y (pc + 1) (xs2 lv i (.long x)) r M g cn sn Q) : xC l G Y pc lv (.long x :: r) M g cn sn Q := fun p e s m args below meth c hx hz H locs ls hR hS hl => lv_lstore_n hx.1 hx.2.1 hd hk hl.has hn rfl (fun ls h2 => h p e s m args below meth c hx hz H locs ls hR hS (xLs.put2 h2))
theorem xc_aload {i : Nat} {x : Nat} (hi : xlg lv i = some (.ref x)) (hd : decode (yB Y) pc = .ok (.aload i, 2)) (h : xC l G Y (pc + 2) lv (.ref x :: r) M g cn sn Q) : xC l G Y pc lv r M g cn sn Q := fun p e s m args below meth c hx hz H locs ls hR hS hl => lv_aload hx.1 hx.2.1 hd (hl.2.2 _ _ hi) (h p e s m args below meth c hx hz H locs ls hR hS hl)
theorem xc_aload_n {k : Fin 4} {i : Nat} {x : Nat} (hk : (k : Nat) = i) (hi : xlg lv i = some (.ref x)) (hd : decode (yB Y) pc = .ok (.aload_n k, 1)) (h : xC l G Y (pc + 1) lv (.ref x :: r) M g cn sn Q) : xC l G Y pc lv r M g cn sn Q := fun p e s m args below meth c hx hz H locs ls hR hS hl => lv_aload_n hx.1 hx.2.1 hd hk (hl.2.2 _ _ hi) (h p e s m args below meth c hx hz H locs ls hR hS hl)
theorem xc_astore {i : Nat} {x : Nat} (hn : i < yL Y) (hd : decode (yB Y) pc = .ok (.astore i, 2)) (h : xC l G Y (pc + 2) (xs1 lv i (.ref x)) r M g cn sn Q) : xC l G Y pc lv (.ref x :: r) M g cn sn Q := fun p e s m args below meth c hx hz H locs ls hR hS hl => lv_astore hx.1 hx.2.1 hd hl.has hn rfl (fun ls h2 => h p e s m args below meth c hx hz H locs ls hR hS (xLs.put1 h2))
theorem xc_astore_n {k : Fin 4} {i : Nat} {x : Nat} (hk : (k : Nat) = i) (hn : i < yL Y) (hd : decode (yB Y) pc = .ok (.astore_n k, 1)) (h : xC l G Y (pc + 1) (xs1 lv i (.ref x)) r M g cn sn Q) : xC l G Y pc lv (.ref x :: r) M g cn sn Q := fun p e s m args below meth c hx hz H locs ls hR hS hl => lv_astore_n hx.1 hx.2.1 hd hk hl.has hn rfl (fun ls h2 => h p e s m args below meth c hx hz H locs ls hR hS (xLs.put1 h2))
theorem xc_iinc {i : Nat} {n : Int} {x c : Int32} (hi : xlg lv i = some (.int x)) (hc : Int32.ofInt n = c) (hd : decode (yB Y) pc = .ok (.iinc i n, 3)) (h : xC l G Y (pc + 3) (xs1 lv i (.int (x + c))) r M g cn sn Q) : xC l G Y pc lv r M g cn sn Q := by
  intro p e s m args below meth c0 hx hz H locs ls hR hS hl
  have hm := xin_as (G := G) lv 0 i _ hi
  rw [Nat.zero_add] at hm
  obtain ⟨k, hk⟩ := List.getElem?_of_mem hm
  exact lv_iinc hx.1 hx.2.1 hd hl.has hk (by rw [hc]) (xlg_lt hl hi) rfl (fun ls h2 => h p e s m args below meth c0 hx hz H locs ls hR hS (xLs.put1 h2))
theorem xc_if_eq {x : Int32} {off : Int} {t : Nat} (hd : decode (yB Y) pc = .ok (.ifCond .eq off, 3)) (ht : (pc : Int) + off = (t : Int)) (h1 : x = 0 → xC l G Y t lv r M g cn sn Q) (h2 : ¬ x = 0 → xC l G Y (pc + 3) lv r M g cn sn Q) : xC l G Y pc lv (.int x :: r) M g cn sn Q := fun p e s m args below meth c hx hz H locs ls hR hS hl => lv_if_eq hx.1 hx.2.1 hd ht (fun z => h1 z p e s m args below meth c hx hz H locs ls hR hS hl) (fun z => h2 z p e s m args below meth c hx hz H locs ls hR hS hl)
theorem xc_if_ne {x : Int32} {off : Int} {t : Nat} (hd : decode (yB Y) pc = .ok (.ifCond .ne off, 3)) (ht : (pc : Int) + off = (t : Int)) (h1 : ¬ x = 0 → xC l G Y t lv r M g cn sn Q) (h2 : x = 0 → xC l G Y (pc + 3) lv r M g cn sn Q) : xC l G Y pc lv (.int x :: r) M g cn sn Q := fun p e s m args below meth c hx hz H locs ls hR hS hl => lv_if_ne hx.1 hx.2.1 hd ht (fun z => h1 z p e s m args below meth c hx hz H locs ls hR hS hl) (fun z => h2 z p e s m args below meth c hx hz H locs ls hR hS hl)
theorem xc_if_lt {x : Int32} {off : Int} {t : Nat} (hd : decode (yB Y) pc = .ok (.ifCond .lt off, 3)) (ht : (pc : Int) + off = (t : Int)) (h1 : x < 0 → xC l G Y t lv r M g cn sn Q) (h2 : ¬ x < 0 → xC l G Y (pc + 3) lv r M g cn sn Q) : xC l G Y pc lv (.int x :: r) M g cn sn Q := fun p e s m args below meth c hx hz H locs ls hR hS hl => lv_if_lt hx.1 hx.2.1 hd ht (fun z => h1 z p e s m args below meth c hx hz H locs ls hR hS hl) (fun z => h2 z p e s m args below meth c hx hz H locs ls hR hS hl)
theorem xc_if_ge {x : Int32} {off : Int} {t : Nat} (hd : decode (yB Y) pc = .ok (.ifCond .ge off, 3)) (ht : (pc : Int) + off = (t : Int)) (h1 : ¬ x < 0 → xC l G Y t lv r M g cn sn Q) (h2 : x < 0 → xC l G Y (pc + 3) lv r M g cn sn Q) : xC l G Y pc lv (.int x :: r) M g cn sn Q := fun p e s m args below meth c hx hz H locs ls hR hS hl => lv_if_ge hx.1 hx.2.1 hd ht (fun z => h1 (Int32.not_lt.mpr z) p e s m args below meth c hx hz H locs ls hR hS hl) (fun z => h2 (Int32.not_le.mp z) p e s m args below meth c hx hz H locs ls hR hS hl)
theorem xc_if_gt {x : Int32} {off : Int} {t : Nat} (hd : decode (yB Y) pc = .ok (.ifCond .gt off, 3)) (ht : (pc : Int) + off = (t : Int)) (h1 : 0 < x → xC l G Y t lv r M g cn sn Q) (h2 : ¬ 0 < x → xC l G Y (pc + 3) lv r M g cn sn Q) : xC l G Y pc lv (.int x :: r) M g cn sn Q := fun p e s m args below meth c hx hz H locs ls hR hS hl => lv_if_gt hx.1 hx.2.1 hd ht (fun z => h1 z p e s m args below meth c hx hz H locs ls hR hS hl) (fun z => h2 z p e s m args below meth c hx hz H locs ls hR hS hl)
theorem xc_if_le {x : Int32} {off : Int} {t : Nat} (hd : decode (yB Y) pc = .ok (.ifCond .le off, 3)) (ht : (pc : Int) + off = (t : Int)) (h1 : ¬ 0 < x → xC l G Y t lv r M g cn sn Q) (h2 : 0 < x → xC l G Y (pc + 3) lv r M g cn sn Q) : xC l G Y pc lv (.int x :: r) M g cn sn Q := fun p e s m args below meth c hx hz H locs ls hR hS hl => lv_if_le hx.1 hx.2.1 hd ht (fun z => h1 (Int32.not_lt.mpr z) p e s m args below meth c hx hz H locs ls hR hS hl) (fun z => h2 (Int32.not_le.mp z) p e s m args below meth c hx hz H locs ls hR hS hl)
theorem xc_cmp_eq {x y : Int32} {off : Int} {t : Nat} (hd : decode (yB Y) pc = .ok (.if_icmp .eq off, 3)) (ht : (pc : Int) + off = (t : Int)) (h1 : x = y → xC l G Y t lv r M g cn sn Q) (h2 : ¬ x = y → xC l G Y (pc + 3) lv r M g cn sn Q) : xC l G Y pc lv (.int y :: .int x :: r) M g cn sn Q := fun p e s m args below meth c hx hz H locs ls hR hS hl => lv_icmp_eq hx.1 hx.2.1 hd ht (fun z => h1 z p e s m args below meth c hx hz H locs ls hR hS hl) (fun z => h2 z p e s m args below meth c hx hz H locs ls hR hS hl)
theorem xc_cmp_ne {x y : Int32} {off : Int} {t : Nat} (hd : decode (yB Y) pc = .ok (.if_icmp .ne off, 3)) (ht : (pc : Int) + off = (t : Int)) (h1 : ¬ x = y → xC l G Y t lv r M g cn sn Q) (h2 : x = y → xC l G Y (pc + 3) lv r M g cn sn Q) : xC l G Y pc lv (.int y :: .int x :: r) M g cn sn Q := fun p e s m args below meth c hx hz H locs ls hR hS hl => lv_icmp_ne hx.1 hx.2.1 hd ht (fun z => h1 z p e s m args below meth c hx hz H locs ls hR hS hl) (fun z => h2 z p e s m args below meth c hx hz H locs ls hR hS hl)
theorem xc_cmp_lt {x y : Int32} {off : Int} {t : Nat} (hd : decode (yB Y) pc = .ok (.if_icmp .lt off, 3)) (ht : (pc : Int) + off = (t : Int)) (h1 : x < y → xC l G Y t lv r M g cn sn Q) (h2 : ¬ x < y → xC l G Y (pc + 3) lv r M g cn sn Q) : xC l G Y pc lv (.int y :: .int x :: r) M g cn sn Q := fun p e s m args below meth c hx hz H locs ls hR hS hl => lv_icmp_lt hx.1 hx.2.1 hd ht (fun z => h1 z p e s m args below meth c hx hz H locs ls hR hS hl) (fun z => h2 z p e s m args below meth c hx hz H locs ls hR hS hl)
theorem xc_cmp_ge {x y : Int32} {off : Int} {t : Nat} (hd : decode (yB Y) pc = .ok (.if_icmp .ge off, 3)) (ht : (pc : Int) + off = (t : Int)) (h1 : ¬ x < y → xC l G Y t lv r M g cn sn Q) (h2 : x < y → xC l G Y (pc + 3) lv r M g cn sn Q) : xC l G Y pc lv (.int y :: .int x :: r) M g cn sn Q := fun p e s m args below meth c hx hz H locs ls hR hS hl => lv_icmp_ge hx.1 hx.2.1 hd ht (fun z => h1 (Int32.not_lt.mpr z) p e s m args below meth c hx hz H locs ls hR hS hl) (fun z => h2 (Int32.not_le.mp z) p e s m args below meth c hx hz H locs ls hR hS hl)
theorem xc_cmp_gt {x y : Int32} {off : Int} {t : Nat} (hd : decode (yB Y) pc = .ok (.if_icmp .gt off, 3)) (ht : (pc : Int) + off = (t : Int)) (h1 : y < x → xC l G Y t lv r M g cn sn Q) (h2 : ¬ y < x → xC l G Y (pc + 3) lv r M g cn sn Q) : xC l G Y pc lv (.int y :: .int x :: r) M g cn sn Q := fun p e s m args below meth c hx hz H locs ls hR hS hl => lv_icmp_gt hx.1 hx.2.1 hd ht (fun z => h1 z p e s m args below meth c hx hz H locs ls hR hS hl) (fun z => h2 z p e s m args below meth c hx hz H locs ls hR hS hl)
theorem xc_cmp_le {x y : Int32} {off : Int} {t : Nat} (hd : decode (yB Y) pc = .ok (.if_icmp .le off, 3)) (ht : (pc : Int) + off = (t : Int)) (h1 : ¬ y < x → xC l G Y t lv r M g cn sn Q) (h2 : y < x → xC l G Y (pc + 3) lv r M g cn sn Q) : xC l G Y pc lv (.int y :: .int x :: r) M g cn sn Q := fun p e s m args below meth c hx hz H locs ls hR hS hl => lv_icmp_le hx.1 hx.2.1 hd ht (fun z => h1 (Int32.not_lt.mpr z) p e s m args below meth c hx hz H locs ls hR hS hl) (fun z => h2 (Int32.not_le.mp z) p e s m args below meth c hx hz H locs ls hR hS hl)
theorem xc_goto {off : Int} {t : Nat} (ht : (pc : Int) + off = (t : Int)) (hd : decode (yB Y) pc = .ok (.goto off, 3)) (h : xC l G Y t lv r M g cn sn Q) : xC l G Y pc lv r M g cn sn Q := fun p e s m args below meth c hx hz H locs ls hR hS hl => lv_goto hx.1 hx.2.1 hd ht (h p e s m args below meth c hx hz H locs ls hR hS hl)
end XI
end
section
/-! Rows for fields, arrays, switches, returns -/
section XH
variable {l : Launch} {G : xG} {Y : xMD} {pc : Nat} {lv : xLv} {st r : List Value} {M : xMe} {g : xGh} {cn sn : Nat} {Q : Option Value → xMe → xGh → Prop}
theorem xgn_of {g : xGh} (h : xgn g ≤ 96) {k : Nat} (hk : k < xgn g) : k < 96 := by omega
theorem xA_all {G : xG} {s : State} (h : gB G ≤ s.heap.size) : ∀ q, s.heap.size ≤ q → xA G q := fun q hq => Nat.le_trans h hq
/-- behind a store: what was below the world is as it was -/
theorem xRp.stored {G : xG} {M M' : xMe} {g g' : xGh} {s : State} {H H1 : Heap} {locs1 : List Loc} (h : xRp G M g s H) (hb : gB G ≤ s.heap.size) (hS : va_S (xA G) s.heap H locs1) {locs2 : List Loc} (hP : va_P (gD G) xcls (xwl G M' g') H1) (hS1 : va_S (xA G) s.heap H1 locs2) : xRp G M' g' s H1 := by
  refine h.upd hP (fun q h1 h2 => ?_)
  have hq : q < s.heap.size := by
    have : ¬ gB G ≤ q := h2
    omega
  rw [hS1.2.1 q hq h2, hS.2.1 q hq h2]
theorem xcls_ok {ci : Nat} {q : vw_C} (h : xcls[ci]? = some q) : (∀ w ∈ u_ws q.1 q.2.1 q.2.2, w ∈ xtb) ∧ (∀ k, k < q.2.2 → parseFieldDescriptor (q.2.1 k).2.2.1 = some ((xnth xcty ci xY0) k)) ∧ (∀ a, a < q.2.2 → ∀ b, b < q.2.2 → a ≠ b → (q.2.1 a).2.1 ≠ (q.2.1 b).2.1) := by
  match ci, h with
  | 0, h => cases h; exact ⟨xtb_u xi0, xt0, xn0⟩
  | 1, h => cases h; exact ⟨xtb_u xi1, xt1, xn1⟩
  | 2, h => cases h; exact ⟨xtb_u xi2, xt2, xn2⟩
  | 3, h => cases h; exact ⟨xtb_u xi3, xt3, xn3⟩
  | 4, h => cases h; exact ⟨xtb_u xi4, xt4, xn4⟩
  | 5, h => cases h; exact ⟨xtb_u xi5, xt5, xn5⟩
  | 6, h => cases h; exact ⟨xtb_u xi6, xt6, xn6⟩
  | 7, h => cases h; exact ⟨xtb_u xi7, xt7, xn7⟩
  | k + 8, h => simp [xcls] at h
/-- an object's number of fields is that of its class -/
theorem xtl_o : ∀ k, k < 96 → ∀ ci, ci < 8 → xkd k = ci + 3 → ∃ q, xcls[ci]? = some q ∧ xtl k = q.2.2 := by
  have h : ∀ k, k < 96 → ∀ ci, ci < 8 → xkd k = ci + 3 → (xcls.map (fun q => q.2.2))[ci]? = some (xtl k) := by decide +kernel
  intro k hk ci hci e
  have h1 := h k hk ci hci e
  rw [List.getElem?_map] at h1
  cases hq : xcls[ci]? with
  | none => rw [hq] at h1; cases h1
  | some q => rw [hq] at h1; exact ⟨q, rfl, (Option.some.inj h1).symm⟩
theorem xrf_lt : ∀ k, k < 96 → ∀ j, j < 60 → ∀ t, xnth (xrf k) j none = some t → t < 96 := by
  have h : ∀ k, k < 96 → ∀ j, j < 60 → (match xnth (xrf k) j none with | none => true | some t => Nat.blt t 96) = true := by decide +kernel
  intro k hk j hj t e
  have h1 := h k hk j hj
  rw [e] at h1
  exact Nat.blt_eq.mp h1
theorem xkd_lt {k : Nat} (h : xkd k ≠ 99) : k < 98 := by
  have hl : ∀ (l : List (Nat × Nat × List (Option Nat))) (k : Nat), (xnth l k (99, 0, [])).1 ≠ 99 → k < l.length := by
    intro l
    induction l with
    | nil => intro k h; exact absurd rfl h
    | cons a l ih =>
      intro k h
      cases k with
      | zero => simp
      | succ k => have := ih k h; simp; omega
  exact hl xshp k h
theorem xkd_96 : xkd 96 = 0 := by decide +kernel
theorem xkd_97 : xkd 97 = 1 := by decide +kernel
theorem xkd_obj {k n : Nat} (h : xkd k = n + 3) (hn : n < 8) : k < 96 := by
  have h1 := xkd_lt (k := k) (by omega)
  rcases Nat.lt_or_ge k 96 with q | q
  · exact q
  · have : k = 96 ∨ k = 97 := by omega
    rcases this with rfl | rfl
    · rw [xkd_96] at h; omega
    · rw [xkd_97] at h; omega
abbrev xFL (cls : String) (i ci k : Nat) : Prop := ∃ c : vw_C, xcls[ci]? = some c ∧ k < c.2.2 ∧ Cond.fieldLink cls i (c.2.1 k).1 (c.2.1 k).2.1 (c.2.1 k).2.2.1 ∈ xtb
theorem xci_lt {ci : Nat} {c : vw_C} (h : xcls[ci]? = some c) : ci < 8 := (List.getElem?_eq_some_iff.mp h).1
theorem xc_get {i ci k j : Nat} {v : Value} (hf : xFL Y.1.cls i ci j) (hk : xkd k = ci + 3) (hg : k < xgn g) (hv : v = match xnth (xrf k) j none with | none => .int (M.1 k j) | some t => .ref t) (hset : xis g k j = true) (hd : decode (yB Y) pc = .ok (.getfield i, 3)) (h : xC l G Y (pc + 3) lv (v :: r) M g cn sn Q) : xC l G Y pc lv (.ref k :: r) M g cn sn Q := by
  intro p e s m args below meth c hx hz H locs ls hR hS hl
  obtain ⟨q, hq, hj, hw⟩ := hf
  have hci := xci_lt hq
  have hk96 := xkd_obj hk hci
  obtain ⟨q', hq', htl⟩ := xtl_o k hk96 ci hci hk
  cases hq.symm.trans hq'
  have hj60 : j < 60 := by
    have : ∀ ci, ci < 8 → ∀ q : vw_C, xcls[ci]? = some q → q.2.2 < 60 := by
      intro ci h q hq
      match ci, hq with
      | 0, h => cases h; decide
      | 1, h => cases h; decide
      | 2, h => cases h; decide
      | 3, h => cases h; decide
      | 4, h => cases h; decide
      | 5, h => cases h; decide
      | 6, h => cases h; decide
      | 7, h => cases h; decide
    have := this ci hci q hq
    omega
  have hva : xcv G v = xfv G M g k j := by
    rw [hv]
    unfold xfv
    cases ht : xnth (xrf k) j none with
    | none => rfl
    | some t =>
      have hlt := xrf_lt k hk96 j hj60 t ht
      show Value.ref (xad G t) = _
      rw [xad_lt hlt]
      simp [hset]
  have hP := hR.2.1
  have he := xwl_get (G := G) (M := M) hg
  rw [xent_o hk] at he
  have hk1 := hx.2.2.2.2.2.1
  show W p l e (yR Y) s m args below meth c H locs cn sn _ (F0 m pc ls (.ref (xad G k) :: r.map (xcv G)))
  rw [xad_lt hk96]
  refine va_get hx.1 hx.2.1 hk1 (xcls_ok hq).1 hx.2.2.2.2.1 hR.1 hP k he (C := q.1) (T := q.2.1) (N := q.2.2) hq j hj (hk1 _ hw) (fun x h => h) (v := xfv G M g k j) ?_ hd ?_
  · rw [List.getElem?_map, List.getElem?_range (by rw [htl]; exact hj)]
    rfl
  · rw [← hva]
    exact h p e s m args below meth c hx hz H locs ls hR hS hl
theorem xmap_set {n j : Nat} {f f' : Nat → Value} {v : Value} (hv : f' j = v) (ho : ∀ i, i ≠ j → f' i = f i) : ((List.range n).map f).set j v = (List.range n).map f' := by
  apply List.ext_getElem?
  intro i
  by_cases hi : i < n
  · by_cases hj : i = j
    · subst hj
      rw [List.getElem?_set_self (by simp; exact hi), List.getElem?_map, List.getElem?_range hi, ← hv]
      rfl
    · rw [List.getElem?_set_ne (Ne.symm hj), List.getElem?_map, List.getElem?_map, List.getElem?_range hi]
      show some (f i) = some (f' i)
      rw [ho i hj]
  · rw [List.getElem?_eq_none (by simp; omega), List.getElem?_eq_none (by simp; omega)]
theorem xfv_sI {G : xG} {M : xMe} {g : xGh} {k j : Nat} {x : Int32} (hn : xnth (xrf k) j none = none) : xfv G (xsI M k (upd (M.1 k) j x)) g k j = .int x ∧ ∀ i, i ≠ j → xfv G (xsI M k (upd (M.1 k) j x)) g k i = xfv G M g k i := by
  refine ⟨?_, fun i hi => ?_⟩
  · unfold xfv
    rw [hn, xsI_s]
    simp [upd]
  · unfold xfv
    rw [xsI_s]
    simp [upd, hi]
theorem xc_put {i ci k j : Nat} {x : Int32} {ty : FieldType} (hf : xFL Y.1.cls i ci j) (hk : xkd k = ci + 3) (hg : k < xgn g) (hn : xnth (xrf k) j none = none) (hty : (xnth xcty ci xY0) j = ty) (hfin : ∀ c, xcls[ci]? = some c → (c.2.1 j).2.2.2 = false) (hnar : narrow ty (.int x) = .int x) (hfit : fits ty (.int x) = true) (hd : decode (yB Y) pc = .ok (.putfield i, 3)) (h : xC l G Y (pc + 3) lv r (xsI M k (upd (M.1 k) j x)) g cn sn Q) : xC l G Y pc lv (.int x :: .ref k :: r) M g cn sn Q := by
  intro p e s m args below meth c hx hz H locs ls hR hS hl
  obtain ⟨q, hq, hj, hw⟩ := hf
  have hci := xci_lt hq
  have hk96 := xkd_obj hk hci
  obtain ⟨q', hq', htl⟩ := xtl_o k hk96 ci hci hk
  cases hq.symm.trans hq'
  have hP := hR.2.1
  have he := xwl_get (G := G) (M := M) hg
  rw [xent_o hk] at he
  have hk1 := hx.2.2.2.2.2.1
  obtain ⟨o1, o2, o3⟩ := xcls_ok hq
  show W p l e (yR Y) s m args below meth c H locs cn sn _ (F0 m pc ls (.int x :: .ref (xad G k) :: r.map (xcv G)))
  rw [xad_lt hk96]
  refine va_put hx.1 hx.2.1 hk1 o1 (xnth xcty ci xY0) o2 o3 hx.2.2.2.2.1 hR.1 hP xwl_D hS k he (C := q.1) (T := q.2.1) (N := q.2.2) hq j hj (hk1 _ hw) (fun x h => h) (hfin q hq) (ty := ty) (by rw [o2 j hj, hty]) hnar hfit (by simp; rw [htl]; exact hj) hd (fun H1 locs1 hP1 _ hS1 => ?_)
  have e1 : (xwl G M g).set k (gB G + k, .inr (ci, ((List.range (xtl k)).map (xfv G M g k)).set j (.int x))) = xwl G (xsI M k (upd (M.1 k) j x)) g := by
    refine xwl_set rfl rfl ?_ (fun i hi => xent_sI hi)
    rw [xent_o hk, xmap_set (xfv_sI hn).1 (xfv_sI hn).2]
  rw [e1] at hP1
  exact h p e s m args below meth c hx hz H1 locs1 ls (hR.stored hx.2.2.2.2.2.2.2.2.1 hS hP1 hS1) hS1 hl
end XH
end
section
/-! Rows for arrays, switches, returns -/
section XJ
variable {l : Launch} {G : xG} {Y : xMD} {pc : Nat} {lv : xLv} {st r : List Value} {M : xMe} {g : xGh} {cn sn : Nat} {Q : Option Value → xMe → xGh → Prop}
theorem xc_iald {k : Nat} {i : Int32} (hk : xkd k = 0) (h96 : k < 96) (hg : k < xgn g) (hin : vp_in i (xtl k)) (hd : decode (yB Y) pc = .ok (.iaload, 1)) (h : xC l G Y (pc + 1) lv (.int (M.1 k i.toNatClampNeg) :: r) M g cn sn Q) : xC l G Y pc lv (.int i :: .ref k :: r) M g cn sn Q := by
  intro p e s m args below meth c hx hz H locs ls hR hS hl
  have he := xwl_get (G := G) (M := M) hg
  rw [xent_i hk] at he
  show W p l e (yR Y) s m args below meth c H locs cn sn _ (F0 m pc ls (.int i :: .ref (xad G k) :: r.map (xcv G)))
  rw [xad_lt h96]
  exact va_iald hx.1 hx.2.1 hR.1 hR.2.1 k 0 he rfl hin hd (h p e s m args below meth c hx hz H locs ls hR hS hl)
theorem xc_zald {k : Nat} {i : Int32} (hk : xkd k = 2) (h96 : k < 96) (hg : k < xgn g) (hin : vp_in i (xtl k)) (hd : decode (yB Y) pc = .ok (.baload, 1)) (h : xC l G Y (pc + 1) lv (.int (M.1 k i.toNatClampNeg) :: r) M g cn sn Q) : xC l G Y pc lv (.int i :: .ref k :: r) M g cn sn Q := by
  intro p e s m args below meth c hx hz H locs ls hR hS hl
  have he := xwl_get (G := G) (M := M) hg
  rw [xent_z hk] at he
  show W p l e (yR Y) s m args below meth c H locs cn sn _ (F0 m pc ls (.int i :: .ref (xad G k) :: r.map (xcv G)))
  rw [xad_lt h96]
  exact va_zald hx.1 hx.2.1 hR.1 hR.2.1 k 2 he rfl hin hd (h p e s m args below meth c hx hz H locs ls hR hS hl)
theorem xc_lald {k : Nat} {i : Int32} (hk : xkd k = 1) (h96 : k < 96) (hg : k < xgn g) (hin : vp_in i (xtl k)) (hd : decode (yB Y) pc = .ok (.laload, 1)) (h : xC l G Y (pc + 1) lv (.long (M.2 k i.toNatClampNeg) :: r) M g cn sn Q) : xC l G Y pc lv (.int i :: .ref k :: r) M g cn sn Q := by
  intro p e s m args below meth c hx hz H locs ls hR hS hl
  have he := xwl_get (G := G) (M := M) hg
  rw [xent_l hk] at he
  show W p l e (yR Y) s m args below meth c H locs cn sn _ (F0 m pc ls (.int i :: .ref (xad G k) :: r.map (xcv G)))
  rw [xad_lt h96]
  exact va_lald hx.1 hx.2.1 hR.1 hR.2.1 k 1 he rfl hin hd (h p e s m args below meth c hx hz H locs ls hR hS hl)
theorem xc_iast {k : Nat} {i x : Int32} (hk : xkd k = 0) (h96 : k < 96) (hg : k < xgn g) (hin : vp_in i (xtl k)) (hd : decode (yB Y) pc = .ok (.iastore, 1)) (h : xC l G Y (pc + 1) lv r (xsI M k (upd (M.1 k) i.toNatClampNeg x)) g cn sn Q) : xC l G Y pc lv (.int x :: .int i :: .ref k :: r) M g cn sn Q := by
  intro p e s m args below meth c hx hz H locs ls hR hS hl
  have he := xwl_get (G := G) (M := M) hg
  rw [xent_i hk] at he
  show W p l e (yR Y) s m args below meth c H locs cn sn _ (F0 m pc ls (.int x :: .int i :: .ref (xad G k) :: r.map (xcv G)))
  rw [xad_lt h96]
  refine va_iast hx.1 hx.2.1 hR.1 hR.2.1 xwl_D hS k 0 he rfl hin hd (fun H1 locs1 hP1 _ hS1 => ?_)
  rw [xwl_set (M' := xsI M k (upd (M.1 k) i.toNatClampNeg x)) (g' := g) rfl rfl (by rw [xent_i hk, xsI_s]) (fun j hj => xent_sI hj)] at hP1
  exact h p e s m args below meth c hx hz H1 locs1 ls (hR.stored hx.2.2.2.2.2.2.2.2.1 hS hP1 hS1) hS1 hl
theorem xnar_z {x : Int32} (h : x = 0 ∨ x = 1) : vp_nar .boolean x = x := by
  rcases h with rfl | rfl <;> rfl
theorem xc_zast {k : Nat} {i x : Int32} (hk : xkd k = 2) (h96 : k < 96) (hg : k < xgn g) (hin : vp_in i (xtl k)) (hb : x = 0 ∨ x = 1) (hd : decode (yB Y) pc = .ok (.bastore, 1)) (h : xC l G Y (pc + 1) lv r (xsI M k (upd (M.1 k) i.toNatClampNeg x)) g cn sn Q) : xC l G Y pc lv (.int x :: .int i :: .ref k :: r) M g cn sn Q := by
  intro p e s m args below meth c hx hz H locs ls hR hS hl
  have he := xwl_get (G := G) (M := M) hg
  rw [xent_z hk] at he
  show W p l e (yR Y) s m args below meth c H locs cn sn _ (F0 m pc ls (.int x :: .int i :: .ref (xad G k) :: r.map (xcv G)))
  rw [xad_lt h96]
  refine va_zast hx.1 hx.2.1 hR.1 hR.2.1 xwl_D hS k 2 he rfl hin hd (fun H1 locs1 hP1 _ hS1 => ?_)
  rw [xnar_z hb, xwl_set (M' := xsI M k (upd (M.1 k) i.toNatClampNeg x)) (g' := g) rfl rfl (by rw [xent_z hk, xsI_s]) (fun j hj => xent_sI hj)] at hP1
  exact h p e s m args below meth c hx hz H1 locs1 ls (hR.stored hx.2.2.2.2.2.2.2.2.1 hS hP1 hS1) hS1 hl
theorem xc_last {k : Nat} {i : Int32} {x : Int64} (hk : xkd k = 1) (h96 : k < 96) (hg : k < xgn g) (hin : vp_in i (xtl k)) (hd : decode (yB Y) pc = .ok (.lastore, 1)) (h : xC l G Y (pc + 1) lv r (xsL M k (vp_updL (M.2 k) i.toNatClampNeg x)) g cn sn Q) : xC l G Y pc lv (.long x :: .int i :: .ref k :: r) M g cn sn Q := by
  intro p e s m args below meth c hx hz H locs ls hR hS hl
  have he := xwl_get (G := G) (M := M) hg
  rw [xent_l hk] at he
  show W p l e (yR Y) s m args below meth c H locs cn sn _ (F0 m pc ls (.long x :: .int i :: .ref (xad G k) :: r.map (xcv G)))
  rw [xad_lt h96]
  refine va_last hx.1 hx.2.1 hR.1 hR.2.1 xwl_D hS k 1 he rfl hin hd (fun H1 locs1 hP1 _ hS1 => ?_)
  rw [xwl_set (M' := xsL M k (vp_updL (M.2 k) i.toNatClampNeg x)) (g' := g) rfl rfl (by rw [xent_l hk, xsL_s]) (fun j hj => xent_sL hj)] at hP1
  exact h p e s m args below meth c hx hz H1 locs1 ls (hR.stored hx.2.2.2.2.2.2.2.2.1 hS hP1 hS1) hS1 hl
/-- the script -/
theorem xc_sld {i : Int32} (hin : vp_in i (gL G)) (hd : decode (yB Y) pc = .ok (.iaload, 1)) (h : xC l G Y (pc + 1) lv (.int (gx G i.toNatClampNeg) :: r) M g cn sn Q) : xC l G Y pc lv (.int i :: .ref 96 :: r) M g cn sn Q := by
  intro p e s m args below meth c hx hz H locs ls hR hS hl
  obtain ⟨scr, h1, h2, h3, h4, h5⟩ := hR.2.2.1
  have hlt : i.toNatClampNeg < gL G := Nat.not_le.mp fun q => hin (Or.inr q)
  exact W.iald hx.1 hx.2.1 h1 h2 h3 (by rw [h4]; exact hin) (h5 _ hlt) rfl rfl hd (h p e s m args below meth c hx hz H locs ls hR hS hl)
theorem xc_slen (hd : decode (yB Y) pc = .ok (.arraylength, 1)) (h : xC l G Y (pc + 1) lv (.int (Int32.ofNat (gL G)) :: r) M g cn sn Q) : xC l G Y pc lv (.ref 96 :: r) M g cn sn Q := by
  intro p e s m args below meth c hx hz H locs ls hR hS hl
  obtain ⟨scr, h1, h2, h3, h4, h5⟩ := hR.2.2.1
  exact W.alen hx.1 hx.2.1 h1 h2 (by rw [h4]) rfl rfl hd (h p e s m args below meth c hx hz H locs ls hR hS hl)
/-- the table of masks -/
theorem xc_hld {i : Int32} (hin : vp_in i 6) (hd : decode (yB Y) pc = .ok (.laload, 1)) (h : xC l G Y (pc + 1) lv (.long (xhv i.toNatClampNeg) :: r) M g cn sn Q) : xC l G Y pc lv (.int i :: .ref 97 :: r) M g cn sn Q := by
  intro p e s m args below meth c hx hz H locs ls hR hS hl
  obtain ⟨cell, h1, h2, h3, h4, h4', h5, h6⟩ := hR.2.2.2.2.2
  have hlt : i.toNatClampNeg < 6 := Nat.not_le.mp fun q => hin (Or.inr q)
  exact W.lald hx.1 hx.2.1 h1 h2 h3 (fun q => hin (q.imp id (fun z => Nat.le_trans h4 z))) (h5 _ hlt) rfl rfl hd (h p e s m args below meth c hx hz H locs ls hR hS hl)
theorem xc_hlen (hd : decode (yB Y) pc = .ok (.arraylength, 1)) (h : xC l G Y (pc + 1) lv (.int (Int32.ofNat 6) :: r) M g cn sn Q) : xC l G Y pc lv (.ref 97 :: r) M g cn sn Q := by
  intro p e s m args below meth c hx hz H locs ls hR hS hl
  obtain ⟨cell, h1, h2, h3, h4, h4', h5, h6⟩ := hR.2.2.2.2.2
  exact W.alen hx.1 hx.2.1 h1 h2 h4' rfl rfl hd (h p e s m args below meth c hx hz H locs ls hR hS hl)
theorem xc_gets {i : Nat} (hw : Cond.fieldLink Y.1.cls i "DataShrinker$OctetSet" "HAVING" "[J" ∈ xtb) (hd : decode (yB Y) pc = .ok (.getstatic i, 3)) (h : xC l G Y (pc + 3) lv (.ref 97 :: r) M g cn sn Q) : xC l G Y pc lv r M g cn sn Q := by
  intro p e s m args below meth c hx hz H locs ls hR hS hl
  obtain ⟨cf, kf, fi, f, a, cell, h1, h2, h3, h4, h5, h6, h7, h8⟩ := hR.2.2.2.2.1
  exact W.gets hx.1 hx.2.1 hx.2.2.2.2.1 (hx.2.2.2.2.2.1 _ hw) h1 h2 h3 h4 h5 (fun e => by rw [e] at h6; cases h6) h7 rfl hd (h p e s m args below meth c hx hz H locs ls hR hS hl)
theorem xc_alen {k : Nat} (hk : xkd k < 3) (h96 : k < 96) (hg : k < xgn g) (hd : decode (yB Y) pc = .ok (.arraylength, 1)) (h : xC l G Y (pc + 1) lv (.int (Int32.ofNat (xtl k)) :: r) M g cn sn Q) : xC l G Y pc lv (.ref k :: r) M g cn sn Q := by
  intro p e s m args below meth c hx hz H locs ls hR hS hl
  have he := xwl_get (G := G) (M := M) hg
  show W p l e (yR Y) s m args below meth c H locs cn sn _ (F0 m pc ls (.ref (xad G k) :: r.map (xcv G)))
  rw [xad_lt h96]
  have hkk := h p e s m args below meth c hx hz H locs ls hR hS hl
  rcases (show xkd k = 0 ∨ xkd k = 1 ∨ xkd k = 2 by omega) with q | q | q
  · rw [xent_i q] at he
    exact va_alen hx.1 hx.2.1 hR.1 hR.2.1 k 0 he rfl rfl hd hkk
  · rw [xent_l q] at he
    exact va_alen hx.1 hx.2.1 hR.1 hR.2.1 k 1 he rfl rfl hd hkk
  · rw [xent_z q] at he
    exact va_alen hx.1 hx.2.1 hR.1 hR.2.1 k 2 he rfl rfl hd hkk
/-- switches -/
theorem xsw_lookup {x : Int32} {k : Int → Prop} {d : Int} : ∀ (l : List (Int × Int)), (l.all fun q => decide ((Int32.ofInt q.1).toInt = q.1)) = true → xsw x k d l → k (Op.lookupswitch.offset l d x.toInt)
  | [], _, h => h
  | q :: l, hl, h => by
    simp only [List.all_cons, Bool.and_eq_true, decide_eq_true_eq] at hl
    by_cases hx : x = Int32.ofInt q.1
    · have h1 := h.1 hx
      have e : x.toInt = q.1 := by rw [hx]; exact hl.1
      have : Op.lookupswitch.offset (q :: l) d x.toInt = q.2 := by
        simp [Op.lookupswitch.offset, e]
      rw [this]
      exact h1
    · have h1 := xsw_lookup l hl.2 (h.2 hx)
      have e : Op.lookupswitch.offset (q :: l) d x.toInt = Op.lookupswitch.offset l d x.toInt := lv_osw (a := q.1) (o := q.2) hx hl.1
      rw [e]
      exact h1
theorem xc_lookup {x : Int32} {d : Int} {ps : Array (Int × Int)} {len : Nat} (hd : decode (yB Y) pc = .ok (.lookupswitch d ps, len)) (hp : (ps.toList.zip (ps.toList.drop 1)).all (fun (a, next) => a.1 < next.1) = true) (hl : (ps.toList.all fun q => decide ((Int32.ofInt q.1).toInt = q.1)) = true) (h : xsw x (fun o => ∃ t : Nat, (pc : Int) + o = (t : Int) ∧ xC l G Y t lv r M g cn sn Q) d ps.toList) : xC l G Y pc lv (.int x :: r) M g cn sn Q := by
  intro p e s m args below meth c hx hz H locs ls hR hS hl2
  obtain ⟨t, ht, hk⟩ := xsw_lookup ps.toList hl h
  exact lv_lookup hx.1 hx.2.1 hd hp rfl ht (hk p e s m args below meth c hx hz H locs ls hR hS hl2)
theorem xsw_table {x : Int32} {k : Int → Prop} {d : Int} : ∀ (offs : List Int) (lo : Int), ((xtab lo offs).all fun q => decide ((Int32.ofInt q.1).toInt = q.1)) = true → xsw x k d (xtab lo offs) → ((x.toInt < lo ∨ lo + offs.length ≤ x.toInt) → k d) ∧ (¬ x.toInt < lo → ¬ lo + offs.length ≤ x.toInt → ∃ o, offs[(x.toInt - lo).toNat]? = some o ∧ k o)
  | [], lo, _, h => ⟨fun _ => h, fun h1 h2 => by simp at h2; omega⟩
  | o :: l, lo, hl, h => by
    simp only [xtab, List.all_cons, Bool.and_eq_true, decide_eq_true_eq] at hl
    by_cases hx : x = Int32.ofInt lo
    · have h1 := h.1 hx
      have e : x.toInt = lo := by rw [hx]; exact hl.1
      refine ⟨fun q => ?_, fun _ _ => ⟨o, ?_, h1⟩⟩
      · simp at q; omega
      · rw [e]; simp
    · have hne : x.toInt ≠ lo := fun q => hx (Int32.toInt_inj.mp (q.trans hl.1.symm))
      obtain ⟨h1, h2⟩ := xsw_table l (lo + 1) hl.2 (h.2 hx)
      refine ⟨fun q => h1 ?_, fun q1 q2 => ?_⟩
      · simp at q
        omega
      · simp at q2
        obtain ⟨o', ho, hk⟩ := h2 (by omega) (by omega)
        refine ⟨o', ?_, hk⟩
        rw [show (x.toInt - lo).toNat = (x.toInt - (lo + 1)).toNat + 1 by omega]
        exact ho
theorem xc_table {x : Int32} {d lo hi : Int} {offs : Array Int} {len : Nat} (hd : decode (yB Y) pc = .ok (.tableswitch d lo hi offs, len)) (hh : hi + 1 = lo + offs.toList.length) (hl : ((xtab lo offs.toList).all fun q => decide ((Int32.ofInt q.1).toInt = q.1)) = true) (h : xsw x (fun o => ∃ t : Nat, (pc : Int) + o = (t : Int) ∧ xC l G Y t lv r M g cn sn Q) d (xtab lo offs.toList)) : xC l G Y pc lv (.int x :: r) M g cn sn Q := by
  intro p e s m args below meth c hx hz H locs ls hR hS hl2
  obtain ⟨h1, h2⟩ := xsw_table offs.toList lo hl h
  by_cases q : x.toInt < lo ∨ hi < x.toInt
  · obtain ⟨t, ht, hk⟩ := h1 (by omega)
    exact lv_tableOut hx.1 hx.2.1 hd q ht (hk p e s m args below meth c hx hz H locs ls hR hS hl2)
  · obtain ⟨o, ho, t, ht, hk⟩ := h2 (by omega) (by omega)
    exact lv_tableIn hx.1 hx.2.1 hd (by omega) (by omega) (by rw [← ho]; simp) ht (hk p e s m args below meth c hx hz H locs ls hR hS hl2)
/-- returns -/
theorem xQc_end {G : xG} {s t : State} {H : Heap} {locs : List Loc} {v : Option Value} {args : Array Value} (hR : xRp G M g s H) (hS : va_S (xA G) s.heap H locs) (hq : Q v M g) (ht : t.heap = H) (hW : s.WarmedH t.vm) : xQc G Q args s (.returned (v.map (xcv G))) t :=
  ⟨⟨v, M, g, rfl, hq, by rw [ht]; exact hR.moved hW.alike⟩, hS.F ht⟩
theorem xc_iret {x : Int32} (ht : yT Y = some .int) (hcn : cn ≤ (yR Y).cells) (hsn : sn ≤ (yR Y).slots) (hd : decode (yB Y) pc = .ok (.ireturn, 1)) (h : Q (some (.int x)) M g) : xC l G Y pc lv [.int x] M g cn sn Q := by
  intro p e s m args below meth c hx hz H locs ls hR hS hl
  refine W.widen hcn hsn ?_
  exact W.iret hx.1 hx.2.1 (hx.2.2.1.trans ht) (fun t h1 h2 => xQc_end (v := some (.int x)) hR hS h h1 h2) hS.2.2 hd hx.2.2.2.2.2.2.1
theorem xc_zret {x : Int32} (ht : yT Y = some .boolean) (hb : x = 0 ∨ x = 1) (hcn : cn ≤ (yR Y).cells) (hsn : sn ≤ (yR Y).slots) (hd : decode (yB Y) pc = .ok (.ireturn, 1)) (h : Q (some (.int x)) M g) : xC l G Y pc lv [.int x] M g cn sn Q := by
  intro p e s m args below meth c hx hz H locs ls hR hS hl
  refine W.widen hcn hsn ?_
  exact W.zret hx.1 hx.2.1 (hx.2.2.1.trans ht) (by rcases hb with rfl | rfl <;> rfl) (fun t h1 h2 => xQc_end (v := some (.int x)) hR hS h h1 h2) hS.2.2 hd hx.2.2.2.2.2.2.1
theorem xc_lret {x : Int64} (ht : yT Y = some .long) (hcn : cn ≤ (yR Y).cells) (hsn : sn ≤ (yR Y).slots) (hd : decode (yB Y) pc = .ok (.lreturn, 1)) (h : Q (some (.long x)) M g) : xC l G Y pc lv [.long x] M g cn sn Q := by
  intro p e s m args below meth c hx hz H locs ls hR hS hl
  refine W.widen hcn hsn ?_
  exact W.lret hx.1 hx.2.1 (hx.2.2.1.trans ht) (fun t h1 h2 => xQc_end (v := some (.long x)) hR hS h h1 h2) hS.2.2 hd hx.2.2.2.2.2.2.1
theorem xc_vret (ht : yT Y = none) (hcn : cn ≤ (yR Y).cells) (hsn : sn ≤ (yR Y).slots) (hd : decode (yB Y) pc = .ok (.return_, 1)) (h : Q none M g) : xC l G Y pc lv [] M g cn sn Q := by
  intro p e s m args below meth c hx hz H locs ls hR hS hl
  refine W.widen hcn hsn ?_
  exact W.vret hx.1 hx.2.1 (hx.2.2.1.trans ht) (fun t h1 h2 => xQc_end (v := none) hR hS h h1 h2) hS.2.2 hd hx.2.2.2.2.2.2.1
/-- weaker knowledge of the variables, of the end -/
theorem xc_lv {lv' : xLv} (hv : ∀ i v, xlg lv' i = some v → xlg lv i = some v) (h : xC l G Y pc lv' st M g cn sn Q) : xC l G Y pc lv st M g cn sn Q := fun p e s m args below meth c hx hz H locs ls hR hS hl => h p e s m args below meth c hx hz H locs ls hR hS ⟨hl.1, hl.2.1, fun i v hi => hl.2.2 i v (hv i v hi)⟩
theorem xc_post {Q' : Option Value → xMe → xGh → Prop} (hQ : ∀ v M g, Q' v M g → Q v M g) (h : xC l G Y pc lv st M g cn sn Q') : xC l G Y pc lv st M g cn sn Q := by
  intro p e s m args below meth c hx hz H locs ls hR hS hl T hT X
  obtain ⟨t, a, o, h1, h2, h3, h4⟩ := h p e s m args below meth c hx hz H locs ls hR hS hl T hT X
  refine ⟨t, a, o, h1, h2, ⟨?_, h3.2⟩, h4⟩
  obtain ⟨r, M', g', e1, e2, e3⟩ := h3.1
  exact ⟨r, M', g', e1, hQ _ _ _ e2, e3⟩
end XJ
end
section
/-! Contracts and calls -/
theorem xsl_len {G : xG} : ∀ a : List Value, (lg_sl (a.map (xcv G))).length = (xarg a).length
  | [] => rfl
  | v :: a => by
    have ih := xsl_len (G := G) a
    unfold lg_sl at ih ⊢
    rw [List.map_cons, List.flatMap_cons, List.length_append, ih, xcv_cat]
    rcases lv_cat v with q | q
    · have e : xarg (v :: a) = some v :: xarg a := by
        show (match v.category with | 2 => some v :: none :: xarg a | _ => some v :: xarg a) = _
        rw [q]
        rfl
      rw [e]
      simp [q]
      omega
    · have e : xarg (v :: a) = some v :: none :: xarg a := by
        show (match v.category with | 2 => some v :: none :: xarg a | _ => some v :: xarg a) = _
        rw [q]
        rfl
      rw [e]
      simp [q]
      omega
theorem xT_of {l : Launch} {G : xG} {Y : xMD} {a : List Value} {M : xMe} {g : xGh} {Q : Option Value → xMe → xGh → Prop} (hpl : plainName Y.1.cls = true) (hlen : (xarg a).length ≤ yL Y) (h : xC l G Y 0 (xarg a) [] M g 0 0 Q) : xT l G Y a M g Q := by
  refine Met.ofW (cc := yB Y) (maxL := yL Y) (ret := yT Y) hpl rfl ?_
  intro p e s m args below meth c s₁ B hml hv
  obtain ⟨rfl, hR, hb, hz, hN⟩ := hv
  have hl := lv_entry (a.map (xcv G)) (n := yL Y) (by rw [xsl_len]; exact hlen)
  have hts := atoms_spec (ws := xws Y) B.pre
  rw [lg_entry_eq]
  exact h p e s m _ below meth c ⟨B.exec, B.bytes, B.returns, hml, findClass_of_methodNamed B.named, fun w hw => hts w (List.mem_cons_of_mem _ hw), B.notSynchronized, (name_of_methodNamed B.named B.method).1, hb, hN⟩ hz s.heap [] _ hR va_S.rf ⟨hl.1, hl.2.1, fun i v hi => hl.2.2 _ (xarg_get a 0 i v hi)⟩
theorem xlw_good : ∀ w ∈ xtb, (w.onTables && w.keeps) = true ∨ ∃ ty, w = .arrayClass ty := fun w hw => good_of_word (List.mem_filter.mp hw).2
theorem xgood {Z : xMD} (hc : Cond.code Z.1 (yB Z) (yL Z) (yT Z) ∈ xtb) : GoodIn xtb (xws Z) := by
  intro w hw
  rcases List.mem_cons.mp hw with h | h
  · subst h
    exact ⟨hc, xlw_good _ hc⟩
  · exact ⟨h, xlw_good _ h⟩
/-- what is the same for every call of Z -/
abbrev xZ (Z : xMD) (n : Nat) : Prop := Cond.initialized Z.1.cls ∈ xtb ∧ Cond.code Z.1 (yB Z) (yL Z) (yT Z) ∈ xtb ∧ Z.1.cls ≠ "java/lang/invoke/MethodHandle" ∧ Z.1.cls ≠ "java/lang/invoke/VarHandle" ∧ (parseMethodDescriptor Z.1.desc).map (fun d => d.parameters.length) = some n
abbrev xLk (cls : String) (i : Nat) (y : MethodName) : Prop := Cond.methodLink cls i y ∈ xtb ∨ ∃ host, (cls, i, y, host) ∈ xnst
abbrev xRm (Y Z : xMD) : Prop := (yR Z).frames + 1 ≤ (yR Y).frames ∧ 8 + (yL Z + 11) + (yR Z).locals ≤ (yR Y).locals
theorem xsz {p : Program} {l : Launch} {e : Env} {R : Room} {s : State} {m : MethodId} {args : Array Value} {below : List Frame} {meth : Method} {c : Code} {T : State} {locs : List Loc} {cn sn : Nat} {G : xG} {M : xMe} {g : xGh} (X : Stand p l e R s m args below meth c T locs cn sn) (hz : xSz G g (s.heap.size + cn)) (hb : gB G ≤ s.heap.size) (hP : va_P (gD G) xcls (xwl G M g) T.heap) (hS : va_S (xA G) s.heap T.heap locs) : xSz G g T.heap.size := by
  cases g with
  | none => trivial
  | some q =>
    have h1 := X.heapSize
    have h2 : s.heap.size + cn = gB G + q.1 := hz
    have h3 := hS.1
    show T.heap.size = gB G + q.1
    rcases Nat.eq_zero_or_pos q.1 with h0 | h0
    · omega
    · have h4 := (hP (q.1 - 1) _ (xwl_get (g := some q) (show q.1 - 1 < q.1 by omega))).lt
      have h5 : gB G + (q.1 - 1) < T.heap.size := h4
      omega
theorem xW_of {p : Program} {l : Launch} {e : Env} {R : Room} {s : State} {m : MethodId} {args : Array Value} {below : List Frame} {meth : Method} {c : Code} {H : Heap} {locs : List Loc} {cn sn : Nat} {Q : State → Prop} {g : JFrame} (h : ∀ T : State, T.heap = H → Stand p l e R s m args below meth c T locs cn sn → W p l e R s m args below meth c H locs cn sn Q g) : W p l e R s m args below meth c H locs cn sn Q g := fun T hT X => h T hT X T hT X
section XR
variable {p : Program} {l : Launch} {e : Env} {R : Room} {s : State} {m : MethodId} {args : Array Value} {below : List Frame} {meth : Method} {c : Code} {H : Heap} {locs : List Loc} {cells slots : Nat} {Q : State → Prop}
theorem xrun {G : xG} {pc : Nat} {ls : Array Slot} {st0 rest : List Value} {mc ms : Nat} {Q1 : Option Value → xMe → xGh → Prop} {a : Array Value} (hr : va_Run p l e R s m args below meth c H locs cells slots mc ms (F0 m pc ls st0) rest (xQc G Q1 a) (xA G)) (hS : va_S (xA G) s.heap H locs)
    (kk : ∀ (r : Option Value) (M' : xMe) (g' : xGh) (H1 : Heap) (locs1 : List Loc), Q1 r M' g' → xRp G M' g' s H1 → va_S (xA G) s.heap H1 locs1 → W p l e R s m args below meth c H1 locs1 (cells + mc) (slots + ms) Q (F0 m (pc + 3) ls ((r.map (xcv G)).toList ++ rest))) : W p l e R s m args below meth c H locs cells slots Q (F0 m pc ls st0) := by
  intro T hT X
  obtain ⟨v, st₀, t, T', L, h0, X', hL, e1, e2, ⟨⟨r, M', g', hv, hq, hR'⟩, hz, hk⟩, st⟩ := hr T hT X
  cases hv
  rw [h0] at hz hk
  have hR2 : xRp G M' g' s T'.heap := by
    rw [e1]
    exact hR'.moved (by rw [← e2]; exact X'.warmed.alike.symm)
  obtain ⟨t2, a1, b1⟩ := kk r M' g' T'.heap (locs ++ L) hq hR2 ⟨Nat.le_trans hS.1 (by rw [e1]; exact hz), fun q h1 h2 => by rw [e1, hk q (Nat.lt_of_lt_of_le h1 hS.1) h2]; exact hS.2.1 q h1 h2, fun q hq => by
      rcases List.mem_append.mp hq with h | h
      · exact hS.2.2 q h
      · exact hL q h⟩ T' rfl X'
  exact ⟨t2, st t2 a1, b1⟩
end XR
theorem xmap_cat {G : xG} (r : List Value) : ((r.map (xcv G)).map fun v => v.category).sum = (r.map fun v => v.category).sum := by
  rw [List.map_map]
  congr 1
  apply List.map_congr_left
  intro v _
  exact xcv_cat v
theorem xblind {G : xG} {a : List Value} {M : xMe} {g : xGh} : FrameBlind (va_Pc (a.map (xcv G)) (xPr G M g)) := by
  intro v U f mk h
  obtain ⟨h1, h2, h3, h4, h5⟩ := h
  exact ⟨h1, xRp.moved (u := U) (U := U.calling f mk v) (Vm.Alike.refl U.vm) h2, h3, h4, xNst.same (u := U) (U := U.calling f mk v) rfl h5⟩
theorem xtoL {G : xG} (r : Option Value) (rest : List Value) : (r.map (xcv G)).toList ++ rest.map (xcv G) = (r.toList ++ rest).map (xcv G) := by cases r <;> simp
theorem xpay {args : Array Value} {s : State} {Z : xMD} (ht : ∀ w ∈ xtb, w.before args s = true) (hc : Cond.code Z.1 (yB Z) (yL Z) (yT Z) ∈ xtb) : ∀ w ∈ xws Z, ∀ (a' : Array Value) (U : State), s.WarmedH U.vm → w.before a' U = true := fun w hw a' U hW => word_at hW (xgood hc w hw).2 (ht w (xgood hc w hw).1)
section XK
variable {l : Launch} {G : xG} {Y Z : xMD} {pc : Nat} {lv : xLv} {st r : List Value} {M : xMe} {g : xGh} {cn sn : Nat} {Q Q1 : Option Value → xMe → xGh → Prop}
/-- a new object's place while the world is made -/
def xSz2 (g g' : xGh) (mc : Nat) : Prop := match g, g' with
  | none, none => True
  | some q, some q' => q'.1 = q.1 + mc
  | _, _ => False
theorem xSz_call {G : xG} {g g' : xGh} {n cn mc : Nat} (h : xSz G g (n + cn)) (h2 : xSz2 g g' mc) : xSz G g' (n + (cn + mc)) := by
  cases g with
  | none =>
    cases g' with
    | none => trivial
    | some q => exact h2.elim
  | some q =>
    cases g' with
    | none => exact h2.elim
    | some q' =>
      have h1 : n + cn = gB G + q.1 := h
      have h3 : q'.1 = q.1 + mc := h2
      show n + (cn + mc) = gB G + q'.1
      omega
theorem xc_callS (a : List Value) {i n : Nat} (hZ : xZ Z n) (hst : Cond.static Z.1 ∈ xtb) (hlk : xLk Y.1.cls i Z.1) (hn : a.length = n) (hrm : xRm Y Z) (hr : (r.map fun v => v.category).sum ≤ 8) (hf : cn + (yR Z).cells ≤ (yR Y).cells ∧ sn + (yR Z).slots ≤ (yR Y).slots) (hs : st = a.reverse ++ r) (hd : decode (yB Y) pc = .ok (.invokestatic i, 3)) (hT : xT l G Z a M g Q1)
    (h : ∀ v M' g', Q1 v M' g' → xSz2 g g' (yR Z).cells ∧ xC l G Y (pc + 3) lv (v.toList ++ r) M' g' (cn + (yR Z).cells) (sn + (yR Z).slots) Q) : xC l G Y pc lv st M g cn sn Q := by
  intro p e s m args below meth c hx hz H locs ls hR hS hl
  obtain ⟨z1, z2, z3, z4, z5⟩ := hZ
  have hts := hx.2.2.2.2.2.1
  subst hs
  refine xW_of (fun T hT0 X => ?_)
  have hsz := xsz X hz hx.2.2.2.2.2.2.2.2.1 (by rw [hT0]; exact hR.2.1) (by rw [hT0]; exact hS)
  rw [hT0] at hsz
  have hp : PreS s H (va_Pc (a.map (xcv G)) (xPr G M g)) (a.map (xcv G)) :=
    ⟨xblind, fun U hU hW => ⟨rfl, by rw [hU]; exact hR.moved hW.alike, by rw [hU]; exact Nat.le_trans hx.2.2.2.2.2.2.2.2.1 hS.1, by rw [hU]; exact hsz, hx.2.2.2.2.2.2.2.2.2.warm hW⟩⟩
  have hlenD : ∀ sig, parseMethodDescriptor Z.1.desc = some sig → n = sig.parameters.length := fun sig h => by
    have h2 := z5
    rw [h] at h2
    exact (Option.some.inj h2).symm
  have hrun : va_Run p l e (yR Y) s m args below meth c H locs cn sn (yR Z).cells (yR Z).slots (F0 m pc ls ((a.reverse ++ r).map (xcv G))) (r.map (xcv G)) (xQc G Q1 (a.map (xcv G)).toArray) (xA G) := by
    rcases hlk with hlk | ⟨host, hlk⟩
    · exact va_runS (own := Y.1.cls) (nL := yL Y) (Ts := xtb) ⟨hx.1, hx.2.1, hx.2.2.2.1, hx.2.2.2.2.1, hts⟩ hT ⟨⟨rfl, rfl, hrm.1, hrm.2, xpay hts z2, List.mem_cons_self, hts _ z2, hts _ z1, ⟨z3, z4⟩, hlenD, hts _ hlk⟩, hts _ hst⟩ hp rfl (by rw [List.length_map]; exact hn) hl.1 (by show (a.reverse ++ r).map (xcv G) = _; rw [List.map_append, List.map_reverse]) (lv_room (by rw [xmap_cat]; exact hr)) hd hf
    · exact va_runSN (own := Y.1.cls) (nL := yL Y) (Ts := xtb) ⟨hx.1, hx.2.1, hx.2.2.2.1, hx.2.2.2.2.1, hts⟩ hT ⟨⟨⟨rfl, rfl, hrm.1, hrm.2, xpay hts z2, List.mem_cons_self⟩, hts _ z2, hts _ z1, ⟨z3, z4⟩, hlenD, va_Nw.use rfl (hx.2.2.2.2.2.2.2.2.2 _ hlk)⟩, hts _ hst, trivial⟩ hp rfl (by rw [List.length_map]; exact hn) hl.1 (by show (a.reverse ++ r).map (xcv G) = _; rw [List.map_append, List.map_reverse]) (lv_room (by rw [xmap_cat]; exact hr)) hd hf
  refine xrun hrun hS (fun v M' g' H1 locs1 hq hR1 hS1 => ?_)
  rw [xtoL]
  exact (h v M' g' hq).2 p e s m args below meth c hx (xSz_call hz (h v M' g' hq).1) H1 locs1 ls hR1 hS1 hl
theorem xc_callV (a : List Value) {i n k ci : Nat} (hZ : xZ Z n) (hin : Cond.instanceMethod Z.1 ∈ xtb) (hse : Cond.selects Z.1.cls Z.1 Z.1 ∈ xtb) (hlk : xLk Y.1.cls i Z.1) (hn : a.length = n) (hrm : xRm Y Z) (hr : (r.map fun v => v.category).sum ≤ 8) (hf : cn + (yR Z).cells ≤ (yR Y).cells ∧ sn + (yR Z).slots ≤ (yR Y).slots) (hk : xkd k = ci + 3) (hci : (xcls[ci]?).map (fun q => q.1) = some Z.1.cls) (hg : k < xgn g) (hs : st = a.reverse ++ .ref k :: r) (hd : decode (yB Y) pc = .ok (.invokevirtual i, 3)) (hT : xT l G Z (.ref k :: a) M g Q1)
    (h : ∀ v M' g', Q1 v M' g' → xSz2 g g' (yR Z).cells ∧ xC l G Y (pc + 3) lv (v.toList ++ r) M' g' (cn + (yR Z).cells) (sn + (yR Z).slots) Q) : xC l G Y pc lv st M g cn sn Q := by
  intro p e s m args below meth c hx hz H locs ls hR hS hl
  obtain ⟨z1, z2, z3, z4, z5⟩ := hZ
  have hts := hx.2.2.2.2.2.1
  subst hs
  refine xW_of (fun T hT0 X => ?_)
  have hsz := xsz X hz hx.2.2.2.2.2.2.2.2.1 (by rw [hT0]; exact hR.2.1) (by rw [hT0]; exact hS)
  rw [hT0] at hsz
  obtain ⟨q, hq, hqc⟩ : ∃ q, xcls[ci]? = some q ∧ q.1 = Z.1.cls := by
    cases hq : xcls[ci]? with
    | none => rw [hq] at hci; cases hci
    | some q => rw [hq] at hci; exact ⟨q, rfl, Option.some.inj hci⟩
  have hk96 := xkd_obj hk (xci_lt hq)
  have he := xwl_get (G := G) (M := M) hg
  rw [xent_o hk] at he
  have hcell := va_recv hR.1 hR.2.1 hq he
  rw [hqc] at hcell
  have hp : PreV s H Z.1.cls (gB G + k) (va_Pc ((Value.ref k :: a).map (xcv G)) (xPr G M g)) (a.map (xcv G)) :=
    ⟨xblind, hcell, fun U hU hW => ⟨by rw [List.map_cons]; show _ = (Value.ref (xad G k) :: _).toArray; rw [xad_lt hk96], by rw [hU]; exact hR.moved hW.alike, by rw [hU]; exact Nat.le_trans hx.2.2.2.2.2.2.2.2.1 hS.1, by rw [hU]; exact hsz, hx.2.2.2.2.2.2.2.2.2.warm hW⟩⟩
  have hlenD : ∀ sig, parseMethodDescriptor Z.1.desc = some sig → n = sig.parameters.length := fun sig h => by
    have h2 := z5
    rw [h] at h2
    exact (Option.some.inj h2).symm
  have hstk : (a.reverse ++ .ref k :: r).map (xcv G) = (a.map (xcv G)).reverse ++ .ref (gB G + k) :: r.map (xcv G) := by
    rw [List.map_append, List.map_reverse, List.map_cons]
    show _ ++ Value.ref (xad G k) :: _ = _
    rw [xad_lt hk96]
  have hrun : va_Run p l e (yR Y) s m args below meth c H locs cn sn (yR Z).cells (yR Z).slots (F0 m pc ls ((a.reverse ++ .ref k :: r).map (xcv G))) (r.map (xcv G)) (xQc G Q1 (Value.ref (gB G + k) :: a.map (xcv G)).toArray) (xA G) := by
    rcases hlk with hlk | ⟨host, hlk⟩
    · exact va_runV (own := Y.1.cls) (nL := yL Y) (Ts := xtb) ⟨hx.1, hx.2.1, hx.2.2.2.1, hx.2.2.2.2.1, hts⟩ hT ⟨⟨rfl, rfl, hrm.1, hrm.2, xpay hts z2, List.mem_cons_self, hts _ z2, hts _ z1, ⟨z3, z4⟩, hlenD, hts _ hlk⟩, hts _ hin, hts _ hse⟩ hp rfl (by rw [List.length_map]; exact hn) hl.1 hstk (lv_room (by rw [xmap_cat]; exact hr)) hd hf
    · exact va_runVN (own := Y.1.cls) (nL := yL Y) (Ts := xtb) ⟨hx.1, hx.2.1, hx.2.2.2.1, hx.2.2.2.2.1, hts⟩ hT ⟨⟨⟨rfl, rfl, hrm.1, hrm.2, xpay hts z2, List.mem_cons_self⟩, hts _ z2, hts _ z1, ⟨z3, z4⟩, hlenD, va_Nw.use rfl (hx.2.2.2.2.2.2.2.2.2 _ hlk)⟩, hts _ hin, hts _ hse⟩ hp rfl (by rw [List.length_map]; exact hn) hl.1 hstk (lv_room (by rw [xmap_cat]; exact hr)) hd hf
  refine xrun hrun hS (fun v M' g' H1 locs1 hq hR1 hS1 => ?_)
  rw [xtoL]
  exact (h v M' g' hq).2 p e s m args below meth c hx (xSz_call hz (h v M' g' hq).1) H1 locs1 ls hR1 hS1 hl
theorem xc_callI (a : List Value) {i n k : Nat} (hZ : xZ Z n) (hret : yT Z = none) (hnm : Z.1.name = "<init>") (hin : Cond.instanceMethod Z.1 ∈ xtb) (hlk : xLk Y.1.cls i Z.1) (hn : a.length = n) (hrm : xRm Y Z) (hr : (r.map fun v => v.category).sum ≤ 8) (hf : cn + (yR Z).cells ≤ (yR Y).cells ∧ sn + (yR Z).slots ≤ (yR Y).slots) (hs : st = a.reverse ++ .ref k :: r) (hd : decode (yB Y) pc = .ok (.invokespecial i, 3)) (hT : xT l G Z (.ref k :: a) M g Q1)
    (h : ∀ v M' g', Q1 v M' g' → xSz2 g g' (yR Z).cells ∧ xC l G Y (pc + 3) lv (v.toList ++ r) M' g' (cn + (yR Z).cells) (sn + (yR Z).slots) Q) : xC l G Y pc lv st M g cn sn Q := by
  intro p e s m args below meth c hx hz H locs ls hR hS hl
  obtain ⟨z1, z2, z3, z4, z5⟩ := hZ
  have hts := hx.2.2.2.2.2.1
  subst hs
  refine xW_of (fun T hT0 X => ?_)
  have hsz := xsz X hz hx.2.2.2.2.2.2.2.2.1 (by rw [hT0]; exact hR.2.1) (by rw [hT0]; exact hS)
  rw [hT0] at hsz
  have hp : PreS s H (va_Pc ((Value.ref k :: a).map (xcv G)) (xPr G M g)) (.ref (xad G k) :: a.map (xcv G)) :=
    ⟨xblind, fun U hU hW => ⟨rfl, by rw [hU]; exact hR.moved hW.alike, by rw [hU]; exact Nat.le_trans hx.2.2.2.2.2.2.2.2.1 hS.1, by rw [hU]; exact hsz, hx.2.2.2.2.2.2.2.2.2.warm hW⟩⟩
  have hlenD : ∀ sig, parseMethodDescriptor Z.1.desc = some sig → n = sig.parameters.length := fun sig h => by
    have h2 := z5
    rw [h] at h2
    exact (Option.some.inj h2).symm
  have hstk : (a.reverse ++ .ref k :: r).map (xcv G) = (a.map (xcv G)).reverse ++ .ref (xad G k) :: r.map (xcv G) := by
    rw [List.map_append, List.map_reverse, List.map_cons]
    rfl
  have hc2 : Cond.code Z.1 (yB Z) (yL Z) none ∈ xws Z := by
    have : Cond.code Z.1 (yB Z) (yL Z) (yT Z) ∈ xws Z := List.mem_cons_self
    rw [hret] at this
    exact this
  have hc3 : Cond.code Z.1 (yB Z) (yL Z) none ∈ xtb := by rw [← hret]; exact z2
  have hrun : va_Run p l e (yR Y) s m args below meth c H locs cn sn (yR Z).cells (yR Z).slots (F0 m pc ls ((a.reverse ++ .ref k :: r).map (xcv G))) (r.map (xcv G)) (xQc G Q1 (Value.ref (xad G k) :: a.map (xcv G)).toArray) (xA G) := by
    rcases hlk with hlk | ⟨host, hlk⟩
    · exact va_runI (own := Y.1.cls) (nL := yL Y) (Ts := xtb) ⟨hx.1, hx.2.1, hx.2.2.2.1, hx.2.2.2.2.1, hts⟩ hT ⟨⟨rfl, rfl, hrm.1, hrm.2, xpay hts z2, hc2, hts _ hc3, hts _ z1, ⟨z3, z4⟩, hlenD, hts _ hlk⟩, hnm, hts _ hin⟩ hp rfl (by rw [List.length_map]; exact hn) hl.1 hstk (lv_room (by rw [xmap_cat]; exact hr)) hd hf
    · exact va_runIN (own := Y.1.cls) (nL := yL Y) (Ts := xtb) ⟨hx.1, hx.2.1, hx.2.2.2.1, hx.2.2.2.2.1, hts⟩ hT ⟨⟨⟨rfl, rfl, hrm.1, hrm.2, xpay hts z2, hc2⟩, hts _ hc3, hts _ z1, ⟨z3, z4⟩, hlenD, va_Nw.use rfl (hx.2.2.2.2.2.2.2.2.2 _ hlk)⟩, hnm, hts _ hin⟩ hp rfl (by rw [List.length_map]; exact hn) hl.1 hstk (lv_room (by rw [xmap_cat]; exact hr)) hd hf
  refine xrun hrun hS (fun v M' g' H1 locs1 hq hR1 hS1 => ?_)
  rw [xtoL]
  exact (h v M' g' hq).2 p e s m args below meth c hx (xSz_call hz (h v M' g' hq).1) H1 locs1 ls hR1 hS1 hl
end XK
end
section
/-! Copies of arrays; the making of objects and arrays -/
section XM
variable {l : Launch} {G : xG} {Y Z : xMD} {pc : Nat} {lv : xLv} {st r : List Value} {M : xMe} {g : xGh} {cn sn : Nat} {Q : Option Value → xMe → xGh → Prop}
abbrev xAC (cls : String) (i : Nat) : Prop := Cond.methodLink cls i arraycopyName ∈ xtb ∧ Cond.native arraycopyName ∈ xtb ∧ Cond.static arraycopyName ∈ xtb ∧ Cond.initialized "java/lang/System" ∈ xtb
theorem xnfw : nativeFrameWords "java/lang/System" "arraycopy" 5 = 7 := by decide +kernel
theorem xc_copyi {i k0 k1 : Nat} {sp dp n : Int32} (ha : xAC Y.1.cls i) (hk0 : xkd k0 = 0) (hk1 : xkd k1 = 0) (h0 : k0 < 96) (h1 : k1 < 96) (hg0 : k0 < xgn g) (hg1 : k1 < xgn g) (hsp : ¬ sp < 0) (hdp : ¬ dp < 0) (hn : ¬ n < 0) (hs : sp.toNatClampNeg + n.toNatClampNeg ≤ xtl k0) (hdd : dp.toNatClampNeg + n.toNatClampNeg ≤ xtl k1) (hr : (r.map fun v => v.category).sum ≤ 8) (hrm : 1 ≤ (yR Y).frames ∧ 26 ≤ (yR Y).locals) (hd : decode (yB Y) pc = .ok (.invokestatic i, 3))
    (h : xC l G Y (pc + 3) lv r (xsI M k1 (va_cpy (M.1 k0) (M.1 k1) sp.toNatClampNeg dp.toNatClampNeg n.toNatClampNeg)) g cn sn Q) : xC l G Y pc lv (.int n :: .int dp :: .ref k1 :: .int sp :: .ref k0 :: r) M g cn sn Q := by
  intro p e s m args below meth c hx hz H locs ls hR hS hl
  have hts := hx.2.2.2.2.2.1
  have he0 := xwl_get (G := G) (M := M) hg0
  rw [xent_i hk0] at he0
  have he1 := xwl_get (G := G) (M := M) hg1
  rw [xent_i hk1] at he1
  show W p l e (yR Y) s m args below meth c H locs cn sn _ (F0 m pc ls (.int n :: .int dp :: .ref (xad G k1) :: .int sp :: .ref (xad G k0) :: r.map (xcv G)))
  rw [xad_lt h0, xad_lt h1]
  refine va_copyi hx.1 hx.2.1 (hx.2.2.2.1.trans hl.1.symm) hx.2.2.2.2.1 (hts _ ha.1) (hts _ ha.2.1) (hts _ ha.2.2.1) (hts _ ha.2.2.2) hR.1 hR.2.1 xwl_D hS k0 k1 0 0 he0 he1 rfl rfl rfl hsp hdp hn hs hdd (fun _ _ => rfl) hrm.1 (by rw [xmap_cat, xnfw]; omega) hd (fun H1 locs1 hP1 _ hS1 => ?_)
  rw [xwl_set (M' := xsI M k1 (va_cpy (M.1 k0) (M.1 k1) sp.toNatClampNeg dp.toNatClampNeg n.toNatClampNeg)) (g' := g) rfl rfl (by rw [xent_i hk1, xsI_s]) (fun j hj => xent_sI hj)] at hP1
  exact h p e s m args below meth c hx hz H1 locs1 ls (hR.stored hx.2.2.2.2.2.2.2.2.1 hS hP1 hS1) hS1 hl
theorem xc_copyl {i k0 k1 : Nat} {sp dp n : Int32} (ha : xAC Y.1.cls i) (hk0 : xkd k0 = 1) (hk1 : xkd k1 = 1) (h0 : k0 < 96) (h1 : k1 < 96) (hg0 : k0 < xgn g) (hg1 : k1 < xgn g) (hsp : ¬ sp < 0) (hdp : ¬ dp < 0) (hn : ¬ n < 0) (hs : sp.toNatClampNeg + n.toNatClampNeg ≤ xtl k0) (hdd : dp.toNatClampNeg + n.toNatClampNeg ≤ xtl k1) (hr : (r.map fun v => v.category).sum ≤ 8) (hrm : 1 ≤ (yR Y).frames ∧ 26 ≤ (yR Y).locals) (hd : decode (yB Y) pc = .ok (.invokestatic i, 3))
    (h : xC l G Y (pc + 3) lv r (xsL M k1 (va_cpy (M.2 k0) (M.2 k1) sp.toNatClampNeg dp.toNatClampNeg n.toNatClampNeg)) g cn sn Q) : xC l G Y pc lv (.int n :: .int dp :: .ref k1 :: .int sp :: .ref k0 :: r) M g cn sn Q := by
  intro p e s m args below meth c hx hz H locs ls hR hS hl
  have hts := hx.2.2.2.2.2.1
  have he0 := xwl_get (G := G) (M := M) hg0
  rw [xent_l hk0] at he0
  have he1 := xwl_get (G := G) (M := M) hg1
  rw [xent_l hk1] at he1
  show W p l e (yR Y) s m args below meth c H locs cn sn _ (F0 m pc ls (.int n :: .int dp :: .ref (xad G k1) :: .int sp :: .ref (xad G k0) :: r.map (xcv G)))
  rw [xad_lt h0, xad_lt h1]
  refine va_copyl hx.1 hx.2.1 (hx.2.2.2.1.trans hl.1.symm) hx.2.2.2.2.1 (hts _ ha.1) (hts _ ha.2.1) (hts _ ha.2.2.1) (hts _ ha.2.2.2) hR.1 hR.2.1 xwl_D hS k0 k1 1 1 he0 he1 rfl rfl rfl hsp hdp hn hs hdd (fun _ _ => rfl) hrm.1 (by rw [xmap_cat, xnfw]; omega) hd (fun H1 locs1 hP1 _ hS1 => ?_)
  rw [xwl_set (M' := xsL M k1 (va_cpy (M.2 k0) (M.2 k1) sp.toNatClampNeg dp.toNatClampNeg n.toNatClampNeg)) (g' := g) rfl rfl (by rw [xent_l hk1, xsL_s]) (fun j hj => xent_sL hj)] at hP1
  exact h p e s m args below meth c hx hz H1 locs1 ls (hR.stored hx.2.2.2.2.2.2.2.2.1 hS hP1 hS1) hS1 hl
theorem xwl_grow {G : xG} {M : xMe} {n : Nat} {S : List (Nat × Nat)} : xwl G M (some (n + 1, S)) = xwl G M (some (n, S)) ++ [(gB G + n, xent G M (some (n + 1, S)) n)] := by
  have e : ∀ k, xent G M (some (n + 1, S)) k = xent G M (some (n, S)) k := fun k => rfl
  show (List.range (n + 1)).map _ = (List.range n).map _ ++ _
  rw [List.range_succ, List.map_append]
  rfl
/-- a cell made at the world's end -/
theorem xRp.grow {G : xG} {M : xMe} {n : Nat} {S : List (Nat × Nat)} {s : State} {H H1 : Heap} (h : xRp G M (some (n, S)) s H) (ho : ∀ q, q < gB G + n → H1[q]? = H[q]?) (hs : H.size = gB G + n) (hn : va_at (gD G) xcls (gB G + n, xent G M (some (n + 1, S)) n) H1) : xRp G M (some (n + 1, S)) s H1 := by
  refine h.upd ?_ (fun q h1 _ => ho q (by omega))
  rw [xwl_grow]
  refine (h.2.1.kept (fun k q hk => ?_)).app (fun k q hk => ?_)
  · obtain ⟨hk1, rfl⟩ := xwl_at hk
    have : k < n := hk1
    exact ho _ (by show gB G + k < _; omega)
  · have hz : k < 1 := (List.getElem?_eq_some_iff.mp hk).1
    rw [show k = 0 by omega] at hk
    cases hk
    exact hn
theorem xc_new {i ci n : Nat} {S : List (Nat × Nat)} {q : vw_C} (hcl : Cond.classLink Y.1.cls i q.1 ∈ xtb) (hins : Cond.instantiable q.1 q.2.2 ∈ xtb) (hini : Cond.initialized q.1 ∈ xtb) (hq : xcls[ci]? = some q) (hk : xkd n = ci + 3) (htl : xtl n = q.2.2) (hty : ∀ j, j < q.2.2 → defaultValue ((xnth xcty ci xY0) j) = match xnth (xrf n) j none with | none => .int 0 | some _ => .null) (hM : ∀ j, M.1 n j = 0) (hS0 : ∀ j, xin S n j = false) (hc : cn + 1 ≤ (yR Y).cells) (hs : sn + q.2.2 ≤ (yR Y).slots) (hd : decode (yB Y) pc = .ok (.new i, 3))
    (h : xC l G Y (pc + 3) lv (.ref n :: r) M (some (n + 1, S)) (cn + 1) (sn + q.2.2) Q) : xC l G Y pc lv r M (some (n, S)) cn sn Q := by
  intro p e s m args below meth c hx hz H locs ls hR hS hl
  have hts := hx.2.2.2.2.2.1
  have hn96 := xkd_obj hk (xci_lt hq)
  refine xW_of (fun T hT0 X => ?_)
  have hsz := xsz X hz hx.2.2.2.2.2.2.2.2.1 (by rw [hT0]; exact hR.2.1) (by rw [hT0]; exact hS)
  rw [hT0] at hsz
  have hsz' : H.size = gB G + n := hsz
  have hKn := hR.1.1 ci _ hq
  obtain ⟨o1, o2, o3⟩ := xcls_ok hq
  refine W.newcK hx.1 hx.2.1 hx.2.2.2.2.1 (hts _ hcl) (hts _ hins) (hts _ hini) rfl hd hc hs hKn.2.1 hsz' (fun H1 kC hkC e1 z1 o1' => ?_)
  have hent : va_at (gD G) xcls (gB G + n, xent G M (some (n + 1, S)) n) H1 := by
    rw [xent_o hk]
    refine ⟨q, hq, (u_born (xnth xcty ci xY0) hts o1 hKn hkC e1 o2).to (fun j hj => ?_)⟩
    rw [hty j hj]
    unfold vp_V
    rw [List.getD_eq_getElem?_getD, List.getElem?_map, List.getElem?_range (by rw [htl]; exact hj)]
    show _ = xfv G M (some (n + 1, S)) n j
    unfold xfv
    cases xnth (xrf n) j none with
    | none => simp [hM]
    | some t =>
      have : xis (some (n + 1, S)) n j = false := hS0 j
      simp [this]
  have hk2 := h p e s m args below meth c hx (by show s.heap.size + (cn + 1) = gB G + (n + 1); have : s.heap.size + cn = gB G + n := hz; omega) H1 locs ls (hR.grow o1' hsz' hent) ⟨by have := hS.1; omega, fun x h1 h2 => by rw [o1' x (by have := hS.1; omega)]; exact hS.2.1 x h1 h2, hS.2.2⟩ hl
  have e3 : (Value.ref n :: r).map (xcv G) = .ref (gB G + n) :: r.map (xcv G) := by
    show Value.ref (xad G n) :: _ = _
    rw [xad_lt hn96]
  rw [e3] at hk2
  exact hk2
theorem xc_newa {n : Nat} {S : List (Nat × Nat)} {t : ArrayType} {kd N : Nat} {x : Int32} (ht : (kd = 0 ∧ t = .int) ∨ (kd = 1 ∧ t = .long) ∨ (kd = 2 ∧ t = .boolean)) (hw : Cond.arrayClass (newarray.typeOf t) ∈ xtb) (h96 : n < 96) (hk : xkd n = kd) (htl : xtl n = N) (hx0 : ¬ x < 0) (hN : x.toNatClampNeg = N) (hNb : N ≤ 60000) (hM : ∀ j, M.1 n j = 0) (hM2 : ∀ j, M.2 n j = 0) (hc : cn + 1 ≤ (yR Y).cells) (hs : sn + N ≤ (yR Y).slots) (hd : decode (yB Y) pc = .ok (.newarray t, 2))
    (h : xC l G Y (pc + 2) lv (.ref n :: r) M (some (n + 1, S)) (cn + 1) (sn + N) Q) : xC l G Y pc lv (.int x :: r) M (some (n, S)) cn sn Q := by
  intro p e s m args below meth c hx hz H locs ls hR hS hl
  have hts := hx.2.2.2.2.2.1
  refine xW_of (fun T hT0 X => ?_)
  have hsz := xsz X hz hx.2.2.2.2.2.2.2.2.1 (by rw [hT0]; exact hR.2.1) (by rw [hT0]; exact hS)
  rw [hT0] at hsz
  have hsz' : H.size = gB G + n := hsz
  refine va_newaK hx.1 hx.2.1 (hts _ hw) rfl hd (rest := r.map (xcv G)) rfl hx0 hN ?_ hc hs hsz' (fun H1 cA e1 z1 o1 _ hNm => ?_)
  · rcases ht with ⟨-, rfl⟩ | ⟨-, rfl⟩ | ⟨-, rfl⟩ <;> simp [newarray.typeOf, componentBytes] <;> omega
  have hent : va_at (gD G) xcls (gB G + n, xent G M (some (n + 1, S)) n) H1 := by
    rcases ht with ⟨rfl, rfl⟩ | ⟨rfl, rfl⟩ | ⟨rfl, rfl⟩
    · rw [xent_i hk, htl]
      have hc1 : s.vm.findClass ("[" ++ FieldType.int.toString) = some (gI G) := (hR.1.2 0 _ rfl).2
      cases hNm.symm.trans hc1
      show H1[gB G + n]? = some (vp_cell _ _)
      rw [e1, vp_cell_i]
      congr 2
      funext j
      rw [hM j]
      rfl
    · rw [xent_l hk, htl]
      have hc1 : s.vm.findClass ("[" ++ FieldType.long.toString) = some (gJ G) := (hR.1.2 1 _ rfl).2
      cases hNm.symm.trans hc1
      show H1[gB G + n]? = some (vp_cell _ _)
      rw [e1, vp_cell_l]
      congr 2
      funext j
      rw [hM2 j]
      rfl
    · rw [xent_z hk, htl]
      have hc1 : s.vm.findClass ("[" ++ FieldType.boolean.toString) = some (gZ G) := (hR.1.2 2 _ rfl).2
      cases hNm.symm.trans hc1
      show H1[gB G + n]? = some (vp_cell _ _)
      rw [e1, vp_cell_i]
      congr 2
      funext j
      rw [hM j]
      rfl
  have hk2 := h p e s m args below meth c hx (by show s.heap.size + (cn + 1) = gB G + (n + 1); have : s.heap.size + cn = gB G + n := hz; omega) H1 locs ls (hR.grow o1 hsz' hent) ⟨by have := hS.1; omega, fun x h1 h2 => by rw [o1 x (by have := hS.1; omega)]; exact hS.2.1 x h1 h2, hS.2.2⟩ hl
  have e3 : (Value.ref n :: r).map (xcv G) = .ref (gB G + n) :: r.map (xcv G) := by
    show Value.ref (xad G n) :: _ = _
    rw [xad_lt h96]
  rw [e3] at hk2
  exact hk2
theorem xc_putF {i ci k j t n : Nat} {S : List (Nat × Nat)} {ty : FieldType} (hf : xFL Y.1.cls i ci j) (hk : xkd k = ci + 3) (hg : k < n) (hrf : xnth (xrf k) j none = some t) (ht96 : t < 96) (hty : (xnth xcty ci xY0) j = ty) (hfin : ∀ c, xcls[ci]? = some c → (c.2.1 j).2.2.2 = true ∧ (c.2.1 j).1 = Y.1.cls) (hnm : Y.1.name = "<init>") (hnar : ∀ a : Nat, narrow ty (.ref a) = .ref a ∧ fits ty (.ref a) = true) (hd : decode (yB Y) pc = .ok (.putfield i, 3)) (h : xC l G Y (pc + 3) lv r M (some (n, (k, j) :: S)) cn sn Q) : xC l G Y pc lv (.ref t :: .ref k :: r) M (some (n, S)) cn sn Q := by
  intro p e s m args below meth c hx hz H locs ls hR hS hl
  obtain ⟨q, hq, hj, hw⟩ := hf
  have hci := xci_lt hq
  have hk96 := xkd_obj hk hci
  obtain ⟨q', hq', htl⟩ := xtl_o k hk96 ci hci hk
  cases hq.symm.trans hq'
  have hP := hR.2.1
  have he := xwl_get (G := G) (M := M) (g := some (n, S)) hg
  rw [xent_o hk] at he
  have hk1 := hx.2.2.2.2.2.1
  obtain ⟨o1, o2, o3⟩ := xcls_ok hq
  show W p l e (yR Y) s m args below meth c H locs cn sn _ (F0 m pc ls (.ref (xad G t) :: .ref (xad G k) :: r.map (xcv G)))
  rw [xad_lt hk96, xad_lt ht96]
  refine va_putF hx.1 hx.2.1 hk1 o1 (xnth xcty ci xY0) o2 o3 hx.2.2.2.2.1 hR.1 hP xwl_D hS k he (C := q.1) (T := q.2.1) (N := q.2.2) hq j hj (hk1 _ hw) (fun x h => h) (hfin q hq).1 (hx.2.2.2.2.2.2.2.1.trans hnm) (hfin q hq).2 (ty := ty) (by rw [o2 j hj, hty]) (hnar _).1 (hnar _).2 (by simp; rw [htl]; exact hj) hd (fun H1 locs1 hP1 _ hS1 => ?_)
  have e1 : (xwl G M (some (n, S))).set k (gB G + k, .inr (ci, ((List.range (xtl k)).map (xfv G M (some (n, S)) k)).set j (.ref (gB G + t)))) = xwl G M (some (n, (k, j) :: S)) := by
    refine xwl_set rfl rfl ?_ (fun i hi => ?_)
    · rw [xent_o hk, xmap_set (f' := xfv G M (some (n, (k, j) :: S)) k)]
      · unfold xfv
        rw [hrf]
        simp [xis, xin]
      · intro i hi
        unfold xfv
        cases xnth (xrf k) i none with
        | none => rfl
        | some t' =>
          have h4 : xis (some (n, (k, j) :: S)) k i = xis (some (n, S)) k i := by simp [xis, xin]; intro h; exact absurd h.symm hi
          rw [h4]
    · have e2 : ∀ i', xfv G M (some (n, (k, j) :: S)) i i' = xfv G M (some (n, S)) i i' := by
        intro i'
        unfold xfv
        cases xnth (xrf i) i' none with
        | none => rfl
        | some t' =>
          have h4 : xis (some (n, (k, j) :: S)) i i' = xis (some (n, S)) i i' := by simp [xis, xin]; intro h; exact absurd h.symm hi
          rw [h4]
      have e3 : xfv G M (some (n, (k, j) :: S)) i = xfv G M (some (n, S)) i := funext e2
      unfold xent
      rw [e3]
  rw [e1] at hP1
  exact h p e s m args below meth c hx hz H1 locs1 ls (hR.stored hx.2.2.2.2.2.2.2.2.1 hS hP1 hS1) hS1 hl
theorem xc_obj {i k : Nat} (h1 : Cond.methodLink Y.1.cls i objectInit ∈ xtb) (h2 : Cond.instanceMethod objectInit ∈ xtb) (h3 : Cond.code objectInit ⟨#[0xb1]⟩ 1 none ∈ xtb) (hr : (r.map fun v => v.category).sum ≤ 8) (hrm : 1 ≤ (yR Y).frames ∧ 20 ≤ (yR Y).locals) (hd : decode (yB Y) pc = .ok (.invokespecial i, 3)) (h : xC l G Y (pc + 3) lv r M g cn sn Q) : xC l G Y pc lv (.ref k :: r) M g cn sn Q := by
  intro p e s m args below meth c hx hz H locs ls hR hS hl
  have hts := hx.2.2.2.2.2.1
  exact W.objInit hx.1 hx.2.1 hx.2.2.2.2.1 (hts _ h1) (hts _ h2) (hts _ h3) rfl (hl.1.trans hx.2.2.2.1.symm) (rest := r.map (xcv G)) rfl hd hrm.1 (by show 2 * 0 + _ + 12 ≤ _; rw [xmap_cat]; omega) (h p e s m args below meth c hx hz H locs ls hR hS hl)
/-- all is made -/
theorem xc_seal {S : List (Nat × Nat)} (hS0 : ∀ k, k < 96 → ∀ j, j < 60 → (xnth (xrf k) j none).isSome = true → xin S k j = true) (h : xC l G Y pc lv st M none cn sn Q) : xC l G Y pc lv st M (some (96, S)) cn sn Q := by
  intro p e s m args below meth c hx hz H locs ls hR hS hl
  refine h p e s m args below meth c hx trivial H locs ls ?_ hS hl
  obtain ⟨h1, h2, h3⟩ := hR
  refine ⟨h1, ?_, h3⟩
  have e1 : xwl G M (some (96, S)) = xwl G M none := by
    show (List.range 96).map _ = (List.range 96).map _
    apply List.map_congr_left
    intro k hk
    have hk96 := List.mem_range.mp hk
    have e2 : ∀ n, xkd k = n + 3 → (List.range (xtl k)).map (xfv G M (some (96, S)) k) = (List.range (xtl k)).map (xfv G M none k) := by
      intro n hn
      apply List.map_congr_left
      intro j hj
      have hj1 := List.mem_range.mp hj
      have hj60 : j < 60 := by
        have : ∀ k, k < 96 → xkd k ≥ 3 → xtl k < 60 := by decide +kernel
        have := this k hk96 (by omega)
        omega
      unfold xfv
      cases ht : xnth (xrf k) j none with
      | none => rfl
      | some t =>
        have h4 : xis (some (96, S)) k j = true := hS0 k hk96 j hj60 (by rw [ht]; rfl)
        have h5 : xis none k j = true := rfl
        rw [h4, h5]
    have e3 : xent G M (some (96, S)) k = xent G M none k := by
      match hkd : xkd k with
      | 0 => rw [xent_i hkd, xent_i hkd]
      | 1 => rw [xent_l hkd, xent_l hkd]
      | 2 => rw [xent_z hkd, xent_z hkd]
      | n + 3 => rw [xent_o hkd, xent_o hkd, e2 n hkd]
    show (gB G + k, _) = (gB G + k, _)
    rw [e3]
  rw [← e1]
  exact h2
end XM
end
section
/-! The checked code of a method; many steps of it are sound -/
abbrev xK : Type := List (Nat × Nat × Nat) × List (Nat × Value) × List Nat
def xKok (cls : String) (k : xK) : Prop := (∀ q ∈ k.1, xFL cls q.1 q.2.1 q.2.2) ∧ (∀ q ∈ k.2.1, match q.2 with | .int c => Cond.constant cls q.1 c ∈ xtb | .long c => Cond.constantLong cls q.1 c ∈ xtb | _ => False) ∧ (∀ i ∈ k.2.2, Cond.fieldLink cls i "DataShrinker$OctetSet" "HAVING" "[J" ∈ xtb)
def xlen : Instr → Nat
  | .bipush _ => 2
  | .ldc _ => 2
  | .iload _ => 2
  | .lload _ => 2
  | .aload _ => 2
  | .istore _ => 2
  | .lstore _ => 2
  | .astore _ => 2
  | .newarray _ => 2
  | .sipush _ => 3
  | .ldc_w _ => 3
  | .ldc2_w _ => 3
  | .iinc _ _ => 3
  | .ifCond _ _ => 3
  | .if_icmp _ _ => 3
  | .goto _ => 3
  | .getfield _ => 3
  | .putfield _ => 3
  | .getstatic _ => 3
  | .invokevirtual _ => 3
  | .invokestatic _ => 3
  | .invokespecial _ => 3
  | .new _ => 3
  | _ => 1
def xaux (k : xK) (pc : Nat) (ins : Instr) (a1 a2 : Nat) (v : Value) : Bool := match ins with
  | .iconst n => (match v with | .int c => decide (Int32.ofInt n = c) | _ => false)
  | .bipush n => (match v with | .int c => decide ((Int8.ofInt n).toInt32 = c) | _ => false)
  | .sipush n => (match v with | .int c => decide ((Int16.ofInt n).toInt32 = c) | _ => false)
  | .lconst n => (match v with | .long c => decide (Int64.ofNat (n : Nat) = c) | _ => false)
  | .ldc i => (match v with | .int c => k.2.1.any (fun q => Nat.beq q.1 i && (match q.2 with | .int d => decide (d = c) | _ => false)) | _ => false)
  | .ldc_w i => (match v with | .int c => k.2.1.any (fun q => Nat.beq q.1 i && (match q.2 with | .int d => decide (d = c) | _ => false)) | _ => false)
  | .ldc2_w i => (match v with | .long c => k.2.1.any (fun q => Nat.beq q.1 i && (match q.2 with | .long d => decide (d = c) | _ => false)) | _ => false)
  | .iload i => Nat.beq i a1
  | .lload i => Nat.beq i a1
  | .aload i => Nat.beq i a1
  | .istore i => Nat.beq i a1
  | .lstore i => Nat.beq i a1
  | .astore i => Nat.beq i a1
  | .iload_n i => Nat.beq i a1
  | .lload_n i => Nat.beq i a1
  | .aload_n i => Nat.beq i a1
  | .istore_n i => Nat.beq i a1
  | .lstore_n i => Nat.beq i a1
  | .astore_n i => Nat.beq i a1
  | .iinc i n => Nat.beq i a1 && (match v with | .int c => decide (Int32.ofInt n = c) | _ => false)
  | .ifCond _ o => decide ((pc : Int) + o = (a1 : Int))
  | .if_icmp _ o => decide ((pc : Int) + o = (a1 : Int))
  | .goto o => decide ((pc : Int) + o = (a1 : Int))
  | .tableswitch d lo hi offs => decide (0 ≤ (pc : Int) + d) && (offs.toList.all fun o => decide (0 ≤ (pc : Int) + o)) && decide (hi + 1 = lo + offs.toList.length) && ((xtab lo offs.toList).all fun q => decide ((Int32.ofInt q.1).toInt = q.1))
  | .lookupswitch d ps => decide (0 ≤ (pc : Int) + d) && (ps.toList.all fun q => decide (0 ≤ (pc : Int) + q.2)) && ((ps.toList.zip (ps.toList.drop 1)).all fun (a, next) => a.1 < next.1) && (ps.toList.all fun q => decide ((Int32.ofInt q.1).toInt = q.1))
  | .getfield i => k.1.any (fun q => Nat.beq q.1 i && (Nat.beq q.2.1 a2 && Nat.beq q.2.2 a1))
  | .putfield i => k.1.any (fun q => Nat.beq q.1 i && (Nat.beq q.2.1 a2 && Nat.beq q.2.2 a1)) && (match v with | .int _ => decide ((xnth xcty a2 xY0) a1 = .int) | .long _ => decide ((xnth xcty a2 xY0) a1 = .boolean) | _ => true) && (match v with | .null => true | _ => (match xcls[a2]? with | some c => !(c.2.1 a1).2.2.2 | none => false))
  | .getstatic i => k.2.2.any (fun j => Nat.beq j i)
  | _ => true
def xchk (B : ByteArray) (k : xK) : List xRw → Bool
  | [] => false
  | [_] => true
  | (pc, ins, a1, a2, v) :: (r2 :: rs) => (match ins with
    | .tableswitch .. => (match decode B pc with | .ok (i, _) => decide (i = ins) | .error _ => false)
    | .lookupswitch .. => (match decode B pc with | .ok (i, _) => decide (i = ins) | .error _ => false)
    | _ => decide (decode B pc = .ok (ins, xlen ins)) && Nat.beq r2.1 (pc + xlen ins)) && xaux k pc ins a1 a2 v && xchk B k (r2 :: rs)
/-- a method with its checked code -/
def xOK (Y : xMD) (k : xK) (all : List xRw) : Prop := xKok Y.1.cls k ∧ xchk (yB Y) k all = true
theorem xany {α : Type} {p : α → Bool} {l : List α} (h : l.any p = true) : ∃ q ∈ l, p q = true := List.any_eq_true.mp h
theorem xjmp_hd : ∀ (all : List xRw) (t : Nat) (r : xRw) (rs : List xRw), xjmp all t = r :: rs → r.1 = t
  | [], _, _, _, h => by cases h
  | a :: l, t, r, rs, h => by
    unfold xjmp at h
    cases hb : Nat.beq a.1 t with
    | true =>
      rw [hb] at h
      cases h
      exact Nat.eq_of_beq_eq_true hb
    | false =>
      rw [hb] at h
      exact xjmp_hd l t r rs h
theorem xchk_tl {B : ByteArray} {k : xK} {r r2 : xRw} {rs : List xRw} (h : xchk B k (r :: r2 :: rs) = true) : xchk B k (r2 :: rs) = true := by
  obtain ⟨pc, ins, a1, a2, v⟩ := r
  unfold xchk at h
  rw [Bool.and_eq_true] at h
  exact h.2
theorem xchk_jmp {B : ByteArray} {k : xK} : ∀ (all : List xRw) (t : Nat) (r : xRw) (rs : List xRw), xchk B k all = true → xjmp all t = r :: rs → xchk B k (r :: rs) = true
  | [], _, _, _, _, h => by cases h
  | [a], t, r, rs, hc, h => by
    unfold xjmp at h
    cases hb : Nat.beq a.1 t with
    | true => rw [hb] at h; cases h; exact hc
    | false => rw [hb] at h; cases h
  | a :: a2 :: l, t, r, rs, hc, h => by
    unfold xjmp at h
    cases hb : Nat.beq a.1 t with
    | true => rw [hb] at h; cases h; exact hc
    | false => rw [hb] at h; exact xchk_jmp (a2 :: l) t r rs (xchk_tl hc) h
theorem xchk_dec {B : ByteArray} {k : xK} {pc : Nat} {ins : Instr} {a1 a2 : Nat} {v : Value} {r2 : xRw} {rs : List xRw} (h : xchk B k ((pc, ins, a1, a2, v) :: r2 :: rs) = true) : xaux k pc ins a1 a2 v = true ∧ ((∃ n, decode B pc = .ok (ins, n)) ∧ ((∀ d lo hi o, ins ≠ .tableswitch d lo hi o) → (∀ d o, ins ≠ .lookupswitch d o) → decode B pc = .ok (ins, xlen ins) ∧ r2.1 = pc + xlen ins)) := by
  unfold xchk at h
  rw [Bool.and_eq_true, Bool.and_eq_true] at h
  refine ⟨h.1.2, ?_⟩
  have h1 := h.1.1
  split at h1
  · refine ⟨?_, fun q => absurd rfl (q _ _ _ _)⟩
    split at h1
    · rename_i i n hdec
      rw [decide_eq_true_eq] at h1
      exact ⟨n, by rw [hdec, h1]⟩
    · cases h1
  · refine ⟨?_, fun _ q => absurd rfl (q _ _)⟩
    split at h1
    · rename_i i n hdec
      rw [decide_eq_true_eq] at h1
      exact ⟨n, by rw [hdec, h1]⟩
    · cases h1
  · rw [Bool.and_eq_true, decide_eq_true_eq] at h1
    exact ⟨⟨_, h1.1⟩, fun _ _ => ⟨h1.1, Nat.eq_of_beq_eq_true h1.2⟩⟩
theorem xsw_imp {x : Int32} {k k' : Int → Prop} {d : Int} : ∀ (l : List (Int × Int)), (∀ o, (o = d ∨ ∃ q ∈ l, q.2 = o) → k o → k' o) → xsw x k d l → xsw x k' d l
  | [], h, hs => h d (Or.inl rfl) hs
  | q :: l, h, hs => ⟨fun e => h q.2 (Or.inr ⟨q, List.mem_cons_self, rfl⟩) (hs.1 e), fun e => xsw_imp l (fun o ho => h o (ho.imp id (fun ⟨q', h1, h2⟩ => ⟨q', List.mem_cons_of_mem _ h1, h2⟩))) (hs.2 e)⟩
theorem xtab_in : ∀ (offs : List Int) (lo : Int) (q : Int × Int), q ∈ xtab lo offs → q.2 ∈ offs
  | [], _, _, h => by simp [xtab] at h
  | o :: l, lo, q, h => by
    rcases List.mem_cons.mp h with h | h
    · rw [h]; exact List.mem_cons_self
    · exact List.mem_cons_of_mem _ (xtab_in l (lo + 1) q h)
def xissw : Instr → Bool
  | .tableswitch .. => true
  | .lookupswitch .. => true
  | _ => false
theorem xchk_n {B : ByteArray} {k : xK} {pc : Nat} {ins : Instr} {a1 a2 : Nat} {v : Value} {r2 : xRw} {rs : List xRw} (h : xchk B k ((pc, ins, a1, a2, v) :: r2 :: rs) = true) (hs : xissw ins = false) : decode B pc = .ok (ins, xlen ins) ∧ r2.1 = pc + xlen ins := (xchk_dec h).2.2 (fun d lo hi o e => by rw [e] at hs; cases hs) (fun d o e => by rw [e] at hs; cases hs)
theorem xcst {cls : String} {k : xK} (hk : xKok cls k) {i : Nat} {c : Int32} (h : (k.2.1.any (fun q => Nat.beq q.1 i && (match q.2 with | .int d => decide (d = c) | _ => false))) = true) : Cond.constant cls i c ∈ xtb := by
  obtain ⟨⟨j, w⟩, hq, hp⟩ := xany h
  have h1 := hk.2.1 _ hq
  rw [Bool.and_eq_true] at hp
  have hj : j = i := Nat.eq_of_beq_eq_true hp.1
  subst hj
  cases w with
  | int d =>
    have hd : d = c := of_decide_eq_true hp.2
    subst hd
    exact h1
  | _ => cases hp.2
theorem xcsL {cls : String} {k : xK} (hk : xKok cls k) {i : Nat} {c : Int64} (h : (k.2.1.any (fun q => Nat.beq q.1 i && (match q.2 with | .long d => decide (d = c) | _ => false))) = true) : Cond.constantLong cls i c ∈ xtb := by
  obtain ⟨⟨j, w⟩, hq, hp⟩ := xany h
  have h1 := hk.2.1 _ hq
  rw [Bool.and_eq_true] at hp
  have hj : j = i := Nat.eq_of_beq_eq_true hp.1
  subst hj
  cases w with
  | long d =>
    have hd : d = c := of_decide_eq_true hp.2
    subst hd
    exact h1
  | _ => cases hp.2
theorem xfld {cls : String} {k : xK} (hk : xKok cls k) {i a1 a2 : Nat} (h : (k.1.any (fun q => Nat.beq q.1 i && (Nat.beq q.2.1 a2 && Nat.beq q.2.2 a1))) = true) : xFL cls i a2 a1 := by
  obtain ⟨⟨j, u, w⟩, hq, hp⟩ := xany h
  have h1 := hk.1 _ hq
  rw [Bool.and_eq_true, Bool.and_eq_true] at hp
  have e1 : j = i := Nat.eq_of_beq_eq_true hp.1
  have e2 : u = a2 := Nat.eq_of_beq_eq_true hp.2.1
  have e3 : w = a1 := Nat.eq_of_beq_eq_true hp.2.2
  subst e1; subst e2; subst e3
  exact h1
theorem xlt96 {k : Nat} (h : k < 98) (h1 : ¬ k = 96) (h2 : ¬ k = 97) : k < 96 := by omega
theorem xblt {a b : Nat} (h : Nat.blt a b = true) : a < b := Nat.blt_eq.mp h
theorem xkd_i {k : Nat} (h : xkd k = 0) (hn : Nat.beq k 96 = false) : k < 96 := by
  have h1 := xkd_lt (k := k) (by omega)
  have h2 : k ≠ 96 := fun e => by subst e; cases hn
  have h3 : k ≠ 97 := fun e => by subst e; rw [xkd_97] at h; cases h
  omega
theorem xkd_l {k : Nat} (h : xkd k = 1) (hn : Nat.beq k 97 = false) : k < 96 := by
  have h1 := xkd_lt (k := k) (by omega)
  have h2 : k ≠ 97 := fun e => by subst e; cases hn
  have h3 : k ≠ 96 := fun e => by subst e; rw [xkd_96] at h; cases h
  omega
theorem xkd_z {k : Nat} (h : xkd k = 2) : k < 96 := by
  have h1 := xkd_lt (k := k) (by omega)
  have h2 : k ≠ 97 := fun e => by subst e; rw [xkd_97] at h; cases h
  have h3 : k ≠ 96 := fun e => by subst e; rw [xkd_96] at h; cases h
  omega
set_option maxHeartbeats 4000000 in
/-- one step, all made -/
theorem xstp_ok {l : Launch} {G : xG} {Y : xMD} {k : xK} {all : List xRw} {pc : Nat} {ins : Instr} {a1 a2 : Nat} {v : Value} {r2 : xRw} {rs : List xRw} {lv : xLv} {st : List Value} {M : xMe} {cn sn : Nat} {Q : Option Value → xMe → xGh → Prop} {K : List xRw → xLv → List Value → xMe → Prop}
    (hk : xKok Y.1.cls k) (hc : xchk (yB Y) k ((pc, ins, a1, a2, v) :: r2 :: rs) = true) (hs : xstp G all pc ins a1 a2 v (yL Y) (r2 :: rs) lv st M K)
    (hn : ∀ lv' st' M', K (r2 :: rs) lv' st' M' → xC l G Y r2.1 lv' st' M' none cn sn Q) (hj : ∀ t lv' st' M', K (xjmp all t) lv' st' M' → xC l G Y t lv' st' M' none cn sn Q) : xC l G Y pc lv st M none cn sn Q := by
  have hx := (xchk_dec hc).1
  unfold xstp at hs
  unfold xaux at hx
  cases ins with
  | iadd =>
    obtain ⟨hd, e⟩ := xchk_n hc rfl
    rw [e] at hn
    dsimp only at hs hx
    split at hs
    · exact xc_iadd hd (hn _ _ _ hs)
    · exact hs.elim
  | isub =>
    obtain ⟨hd, e⟩ := xchk_n hc rfl
    rw [e] at hn
    dsimp only at hs hx
    split at hs
    · exact xc_isub hd (hn _ _ _ hs)
    · exact hs.elim
  | imul =>
    obtain ⟨hd, e⟩ := xchk_n hc rfl
    rw [e] at hn
    dsimp only at hs hx
    split at hs
    · exact xc_imul hd (hn _ _ _ hs)
    · exact hs.elim
  | iand =>
    obtain ⟨hd, e⟩ := xchk_n hc rfl
    rw [e] at hn
    dsimp only at hs hx
    split at hs
    · exact xc_iand hd (hn _ _ _ hs)
    · exact hs.elim
  | ior =>
    obtain ⟨hd, e⟩ := xchk_n hc rfl
    rw [e] at hn
    dsimp only at hs hx
    split at hs
    · exact xc_ior hd (hn _ _ _ hs)
    · exact hs.elim
  | ixor =>
    obtain ⟨hd, e⟩ := xchk_n hc rfl
    rw [e] at hn
    dsimp only at hs hx
    split at hs
    · exact xc_ixor hd (hn _ _ _ hs)
    · exact hs.elim
  | ineg =>
    obtain ⟨hd, e⟩ := xchk_n hc rfl
    rw [e] at hn
    dsimp only at hs hx
    split at hs
    · exact xc_ineg hd (hn _ _ _ hs)
    · exact hs.elim
  | ishl =>
    obtain ⟨hd, e⟩ := xchk_n hc rfl
    rw [e] at hn
    dsimp only at hs hx
    split at hs
    · exact xc_ishl hd (hn _ _ _ hs)
    · exact hs.elim
  | ishr =>
    obtain ⟨hd, e⟩ := xchk_n hc rfl
    rw [e] at hn
    dsimp only at hs hx
    split at hs
    · exact xc_ishr hd (hn _ _ _ hs)
    · exact hs.elim
  | iushr =>
    obtain ⟨hd, e⟩ := xchk_n hc rfl
    rw [e] at hn
    dsimp only at hs hx
    split at hs
    · exact xc_iushr hd (hn _ _ _ hs)
    · exact hs.elim
  | ladd =>
    obtain ⟨hd, e⟩ := xchk_n hc rfl
    rw [e] at hn
    dsimp only at hs hx
    split at hs
    · exact xc_ladd hd (hn _ _ _ hs)
    · exact hs.elim
  | lsub =>
    obtain ⟨hd, e⟩ := xchk_n hc rfl
    rw [e] at hn
    dsimp only at hs hx
    split at hs
    · exact xc_lsub hd (hn _ _ _ hs)
    · exact hs.elim
  | land =>
    obtain ⟨hd, e⟩ := xchk_n hc rfl
    rw [e] at hn
    dsimp only at hs hx
    split at hs
    · exact xc_land hd (hn _ _ _ hs)
    · exact hs.elim
  | lor =>
    obtain ⟨hd, e⟩ := xchk_n hc rfl
    rw [e] at hn
    dsimp only at hs hx
    split at hs
    · exact xc_lor hd (hn _ _ _ hs)
    · exact hs.elim
  | lxor =>
    obtain ⟨hd, e⟩ := xchk_n hc rfl
    rw [e] at hn
    dsimp only at hs hx
    split at hs
    · exact xc_lxor hd (hn _ _ _ hs)
    · exact hs.elim
  | lshl =>
    obtain ⟨hd, e⟩ := xchk_n hc rfl
    rw [e] at hn
    dsimp only at hs hx
    split at hs
    · exact xc_lshl hd (hn _ _ _ hs)
    · exact hs.elim
  | lshr =>
    obtain ⟨hd, e⟩ := xchk_n hc rfl
    rw [e] at hn
    dsimp only at hs hx
    split at hs
    · exact xc_lshr hd (hn _ _ _ hs)
    · exact hs.elim
  | lushr =>
    obtain ⟨hd, e⟩ := xchk_n hc rfl
    rw [e] at hn
    dsimp only at hs hx
    split at hs
    · exact xc_lushr hd (hn _ _ _ hs)
    · exact hs.elim
  | lcmp =>
    obtain ⟨hd, e⟩ := xchk_n hc rfl
    rw [e] at hn
    dsimp only at hs hx
    split at hs
    · exact xc_lcmp hd (hn _ _ _ hs)
    · exact hs.elim
  | i2l =>
    obtain ⟨hd, e⟩ := xchk_n hc rfl
    rw [e] at hn
    dsimp only at hs hx
    split at hs
    · exact xc_i2l hd (hn _ _ _ hs)
    · exact hs.elim
  | l2i =>
    obtain ⟨hd, e⟩ := xchk_n hc rfl
    rw [e] at hn
    dsimp only at hs hx
    split at hs
    · exact xc_l2i hd (hn _ _ _ hs)
    · exact hs.elim
  | idiv =>
    obtain ⟨hd, e⟩ := xchk_n hc rfl
    rw [e] at hn
    dsimp only at hs hx
    split at hs
    · exact xc_idiv hs.1 hd (hn _ _ _ hs.2)
    · exact hs.elim
  | irem =>
    obtain ⟨hd, e⟩ := xchk_n hc rfl
    rw [e] at hn
    dsimp only at hs hx
    split at hs
    · exact xc_irem hs.1 hd (hn _ _ _ hs.2)
    · exact hs.elim
  | dup =>
    obtain ⟨hd, e⟩ := xchk_n hc rfl
    rw [e] at hn
    dsimp only at hs hx
    split at hs
    · exact xc_dup rfl hd (hn _ _ _ hs)
    · exact xc_dup rfl hd (hn _ _ _ hs)
    · exact hs.elim
  | dup2 =>
    obtain ⟨hd, e⟩ := xchk_n hc rfl
    rw [e] at hn
    dsimp only at hs hx
    split at hs
    · exact xc_dup2a rfl rfl hd (hn _ _ _ hs)
    · exact xc_dup2b rfl hd (hn _ _ _ hs)
    · exact hs.elim
  | pop =>
    obtain ⟨hd, e⟩ := xchk_n hc rfl
    rw [e] at hn
    dsimp only at hs hx
    split at hs
    · exact xc_pop rfl hd (hn _ _ _ hs)
    · exact hs.elim
  | iconst n =>
    obtain ⟨hd, e⟩ := xchk_n hc rfl
    rw [e] at hn
    dsimp only at hs hx
    split at hx
    · exact xc_iconst (of_decide_eq_true hx) hd (hn _ _ _ hs)
    · cases hx
  | bipush n =>
    obtain ⟨hd, e⟩ := xchk_n hc rfl
    rw [e] at hn
    dsimp only at hs hx
    split at hx
    · exact xc_bipush (of_decide_eq_true hx) hd (hn _ _ _ hs)
    · cases hx
  | sipush n =>
    obtain ⟨hd, e⟩ := xchk_n hc rfl
    rw [e] at hn
    dsimp only at hs hx
    split at hx
    · exact xc_sipush (of_decide_eq_true hx) hd (hn _ _ _ hs)
    · cases hx
  | lconst n =>
    obtain ⟨hd, e⟩ := xchk_n hc rfl
    rw [e] at hn
    dsimp only at hs hx
    split at hx
    · exact xc_lconst (of_decide_eq_true hx) hd (hn _ _ _ hs)
    · cases hx
  | ldc i =>
    obtain ⟨hd, e⟩ := xchk_n hc rfl
    rw [e] at hn
    dsimp only at hs hx
    split at hx
    · exact xc_ldc (xcst hk hx) hd (hn _ _ _ hs)
    · cases hx
  | ldc_w i =>
    obtain ⟨hd, e⟩ := xchk_n hc rfl
    rw [e] at hn
    dsimp only at hs hx
    split at hx
    · exact xc_ldcw (xcst hk hx) hd (hn _ _ _ hs)
    · cases hx
  | ldc2_w i =>
    obtain ⟨hd, e⟩ := xchk_n hc rfl
    rw [e] at hn
    dsimp only at hs hx
    split at hx
    · exact xc_ldc2 (xcsL hk hx) hd (hn _ _ _ hs)
    · cases hx
  | iload i =>
    obtain ⟨hd, e⟩ := xchk_n hc rfl
    rw [e] at hn
    dsimp only at hs hx
    have ha := Nat.eq_of_beq_eq_true hx
    subst ha
    split at hs
    · rename_i x hl
      exact xc_iload hl hd (hn _ _ _ hs)
    · exact hs.elim
  | iload_n i =>
    obtain ⟨hd, e⟩ := xchk_n hc rfl
    rw [e] at hn
    dsimp only at hs hx
    have ha := Nat.eq_of_beq_eq_true hx
    split at hs
    · rename_i x hl
      exact xc_iload_n ha hl hd (hn _ _ _ hs)
    · exact hs.elim
  | istore i =>
    obtain ⟨hd, e⟩ := xchk_n hc rfl
    rw [e] at hn
    dsimp only at hs hx
    have ha := Nat.eq_of_beq_eq_true hx
    subst ha
    split at hs
    · rename_i hb
      exact xc_istore (xblt hb) hd (hn _ _ _ ((xp1_eq _ _ _ _).mp hs))
    · exact hs.elim
  | istore_n i =>
    obtain ⟨hd, e⟩ := xchk_n hc rfl
    rw [e] at hn
    dsimp only at hs hx
    have ha := Nat.eq_of_beq_eq_true hx
    split at hs
    · rename_i hb
      exact xc_istore_n ha (xblt hb) hd (hn _ _ _ ((xp1_eq _ _ _ _).mp hs))
    · exact hs.elim
  | lload i =>
    obtain ⟨hd, e⟩ := xchk_n hc rfl
    rw [e] at hn
    dsimp only at hs hx
    have ha := Nat.eq_of_beq_eq_true hx
    subst ha
    split at hs
    · rename_i x hl
      exact xc_lload hl hd (hn _ _ _ hs)
    · exact hs.elim
  | lload_n i =>
    obtain ⟨hd, e⟩ := xchk_n hc rfl
    rw [e] at hn
    dsimp only at hs hx
    have ha := Nat.eq_of_beq_eq_true hx
    split at hs
    · rename_i x hl
      exact xc_lload_n ha hl hd (hn _ _ _ hs)
    · exact hs.elim
  | lstore i =>
    obtain ⟨hd, e⟩ := xchk_n hc rfl
    rw [e] at hn
    dsimp only at hs hx
    have ha := Nat.eq_of_beq_eq_true hx
    subst ha
    split at hs
    · rename_i hb
      exact xc_lstore (xblt hb) hd (hn _ _ _ ((xp2_eq _ _ _ _).mp hs))
    · exact hs.elim
  | lstore_n i =>
    obtain ⟨hd, e⟩ := xchk_n hc rfl
    rw [e] at hn
    dsimp only at hs hx
    have ha := Nat.eq_of_beq_eq_true hx
    split at hs
    · rename_i hb
      exact xc_lstore_n ha (xblt hb) hd (hn _ _ _ ((xp2_eq _ _ _ _).mp hs))
    · exact hs.elim
  | aload i =>
    obtain ⟨hd, e⟩ := xchk_n hc rfl
    rw [e] at hn
    dsimp only at hs hx
    have ha := Nat.eq_of_beq_eq_true hx
    subst ha
    split at hs
    · rename_i x hl
      exact xc_aload hl hd (hn _ _ _ hs)
    · exact hs.elim
  | aload_n i =>
    obtain ⟨hd, e⟩ := xchk_n hc rfl
    rw [e] at hn
    dsimp only at hs hx
    have ha := Nat.eq_of_beq_eq_true hx
    split at hs
    · rename_i x hl
      exact xc_aload_n ha hl hd (hn _ _ _ hs)
    · exact hs.elim
  | astore i =>
    obtain ⟨hd, e⟩ := xchk_n hc rfl
    rw [e] at hn
    dsimp only at hs hx
    have ha := Nat.eq_of_beq_eq_true hx
    subst ha
    split at hs
    · rename_i hb
      exact xc_astore (xblt hb) hd (hn _ _ _ ((xp1_eq _ _ _ _).mp hs))
    · exact hs.elim
  | astore_n i =>
    obtain ⟨hd, e⟩ := xchk_n hc rfl
    rw [e] at hn
    dsimp only at hs hx
    have ha := Nat.eq_of_beq_eq_true hx
    split at hs
    · rename_i hb
      exact xc_astore_n ha (xblt hb) hd (hn _ _ _ ((xp1_eq _ _ _ _).mp hs))
    · exact hs.elim
  | iinc i n =>
    obtain ⟨hd, e⟩ := xchk_n hc rfl
    rw [e] at hn
    dsimp only at hs hx
    rw [Bool.and_eq_true] at hx
    have ha := Nat.eq_of_beq_eq_true hx.1
    subst ha
    have hx2 := hx.2
    split at hs
    · rename_i x c hl
      exact xc_iinc hl (of_decide_eq_true hx2) hd (hn _ _ _ ((xp1_eq _ _ _ _).mp hs))
    · exact hs.elim
  | goto o =>
    obtain ⟨hd, e⟩ := xchk_n hc rfl
    rw [e] at hn
    dsimp only at hs hx
    exact xc_goto (of_decide_eq_true hx) hd (hj _ _ _ _ hs)
  | ifCond c o =>
    obtain ⟨hd, e⟩ := xchk_n hc rfl
    rw [e] at hn
    dsimp only at hs hx
    split at hs
    · cases c with
      | eq => exact xc_if_eq hd (of_decide_eq_true hx) (fun z => hj _ _ _ _ (hs.1 z)) (fun z => hn _ _ _ (hs.2 z))
      | ne => exact xc_if_ne hd (of_decide_eq_true hx) (fun z => hj _ _ _ _ (hs.1 z)) (fun z => hn _ _ _ (hs.2 z))
      | lt => exact xc_if_lt hd (of_decide_eq_true hx) (fun z => hj _ _ _ _ (hs.1 z)) (fun z => hn _ _ _ (hs.2 z))
      | ge => exact xc_if_ge hd (of_decide_eq_true hx) (fun z => hj _ _ _ _ (hs.1 z)) (fun z => hn _ _ _ (hs.2 z))
      | gt => exact xc_if_gt hd (of_decide_eq_true hx) (fun z => hj _ _ _ _ (hs.1 z)) (fun z => hn _ _ _ (hs.2 z))
      | le => exact xc_if_le hd (of_decide_eq_true hx) (fun z => hj _ _ _ _ (hs.1 z)) (fun z => hn _ _ _ (hs.2 z))
    · exact hs.elim
  | if_icmp c o =>
    obtain ⟨hd, e⟩ := xchk_n hc rfl
    rw [e] at hn
    dsimp only at hs hx
    split at hs
    · cases c with
      | eq => exact xc_cmp_eq hd (of_decide_eq_true hx) (fun z => hj _ _ _ _ (hs.1 z)) (fun z => hn _ _ _ (hs.2 z))
      | ne => exact xc_cmp_ne hd (of_decide_eq_true hx) (fun z => hj _ _ _ _ (hs.1 z)) (fun z => hn _ _ _ (hs.2 z))
      | lt => exact xc_cmp_lt hd (of_decide_eq_true hx) (fun z => hj _ _ _ _ (hs.1 z)) (fun z => hn _ _ _ (hs.2 z))
      | ge => exact xc_cmp_ge hd (of_decide_eq_true hx) (fun z => hj _ _ _ _ (hs.1 z)) (fun z => hn _ _ _ (hs.2 z))
      | gt => exact xc_cmp_gt hd (of_decide_eq_true hx) (fun z => hj _ _ _ _ (hs.1 z)) (fun z => hn _ _ _ (hs.2 z))
      | le => exact xc_cmp_le hd (of_decide_eq_true hx) (fun z => hj _ _ _ _ (hs.1 z)) (fun z => hn _ _ _ (hs.2 z))
    · exact hs.elim
  | tableswitch d lo hi offs =>
    dsimp only at hs hx
    obtain ⟨len, hd⟩ := (xchk_dec hc).2.1
    rw [Bool.and_eq_true, Bool.and_eq_true, Bool.and_eq_true] at hx
    obtain ⟨⟨⟨h1, h2⟩, h3⟩, h4⟩ := hx
    split at hs
    · refine xc_table hd (of_decide_eq_true h3) h4 (xsw_imp _ (fun o ho hK => ?_) hs)
      have hp : 0 ≤ (pc : Int) + o := by
        rcases ho with rfl | ⟨q, hq, rfl⟩
        · exact of_decide_eq_true h1
        · exact of_decide_eq_true (List.all_eq_true.mp h2 _ (xtab_in _ _ _ hq))
      exact ⟨((pc : Int) + o).toNat, by omega, hj _ _ _ _ hK⟩
    · exact hs.elim
  | lookupswitch d ps =>
    dsimp only at hs hx
    obtain ⟨len, hd⟩ := (xchk_dec hc).2.1
    rw [Bool.and_eq_true, Bool.and_eq_true, Bool.and_eq_true] at hx
    obtain ⟨⟨⟨h1, h2⟩, h3⟩, h4⟩ := hx
    split at hs
    · refine xc_lookup hd h3 h4 (xsw_imp _ (fun o ho hK => ?_) hs)
      have hp : 0 ≤ (pc : Int) + o := by
        rcases ho with rfl | ⟨q, hq, rfl⟩
        · exact of_decide_eq_true h1
        · exact of_decide_eq_true (List.all_eq_true.mp h2 _ hq)
      exact ⟨((pc : Int) + o).toNat, by omega, hj _ _ _ _ hK⟩
    · exact hs.elim
  | getfield i =>
    obtain ⟨hd, e⟩ := xchk_n hc rfl
    rw [e] at hn
    dsimp only at hs hx
    have hf := xfld hk hx
    split at hs
    · split at hs
      · rename_i h1 h2
        have hkd := Nat.eq_of_beq_eq_true h1
        exact xc_get hf hkd (xkd_obj hkd (xci_lt hf.choose_spec.1)) (by rw [h2]) rfl hd (hn _ _ _ hs)
      · rename_i h1 h2
        have hkd := Nat.eq_of_beq_eq_true h1
        exact xc_get hf hkd (xkd_obj hkd (xci_lt hf.choose_spec.1)) (by rw [h2]) rfl hd (hn _ _ _ hs)
      · exact hs.elim
    · exact hs.elim
  | putfield i =>
    obtain ⟨hd, e⟩ := xchk_n hc rfl
    rw [e] at hn
    dsimp only at hs hx
    rw [Bool.and_eq_true, Bool.and_eq_true] at hx
    obtain ⟨⟨h3, h4⟩, h5⟩ := hx
    have hf := xfld hk h3
    split at hs
    · split at hs
      · rename_i h1 h2
        have hkd := Nat.eq_of_beq_eq_true h1
        dsimp only at h4 h5
        exact xc_put hf hkd (xkd_obj hkd (xci_lt hf.choose_spec.1)) h2 (of_decide_eq_true h4) (fun c hcc => by rw [hcc] at h5; simpa using h5) rfl rfl hd (hn _ _ _ hs)
      · rename_i h1 h2
        have hkd := Nat.eq_of_beq_eq_true h1
        dsimp only at h4 h5
        exact xc_put hf hkd (xkd_obj hkd (xci_lt hf.choose_spec.1)) h2 (of_decide_eq_true h4) (fun c hcc => by rw [hcc] at h5; simpa using h5) (by rcases hs.1 with rfl | rfl <;> rfl) (by rcases hs.1 with rfl | rfl <;> rfl) hd (hn _ _ _ hs.2)
      · exact hs.elim
    · exact hs.elim
  | getstatic i =>
    obtain ⟨hd, e⟩ := xchk_n hc rfl
    rw [e] at hn
    dsimp only at hs hx
    obtain ⟨j, hj1, hj2⟩ := xany hx
    have e2 := Nat.eq_of_beq_eq_true hj2
    subst e2
    exact xc_gets (hk.2.2 _ hj1) hd (hn _ _ _ hs)
  | arraylength =>
    obtain ⟨hd, e⟩ := xchk_n hc rfl
    rw [e] at hn
    dsimp only at hs hx
    split at hs
    · rename_i kk r
      split at hs
      · rename_i hb
        have hlt := xblt hb
        by_cases h96 : (kk : Nat) = 96
        · subst h96
          exact xc_slen hd (hn _ _ _ hs)
        · by_cases h97 : (kk : Nat) = 97
          · subst h97
            exact xc_hlen hd (hn _ _ _ hs)
          · have h98 : (kk : Nat) < 98 := xkd_lt (k := kk) (by omega)
            have h1 : (kk : Nat) < 96 := xlt96 h98 h96 h97
            have e2 : xln G kk = xtl kk := by
              unfold xln
              have : Nat.beq kk 96 = false := by
                cases hq : Nat.beq kk 96 with
                | true => exact absurd (Nat.eq_of_beq_eq_true hq) h96
                | false => rfl
              rw [this]
            rw [e2] at hs
            exact xc_alen hlt h1 h1 hd (hn _ _ _ hs)
      · exact hs.elim
    · exact hs.elim
  | iaload =>
    obtain ⟨hd, e⟩ := xchk_n hc rfl
    rw [e] at hn
    dsimp only at hs hx
    split at hs
    · split at hs
      · rename_i h1 h2
        have e2 := Nat.eq_of_beq_eq_true h2
        subst e2
        exact xc_sld hs.1 hd (hn _ _ _ hs.2)
      · rename_i h1 h2
        have hkd := Nat.eq_of_beq_eq_true h1
        have hlt := xkd_i hkd h2
        exact xc_iald hkd hlt hlt hs.1 hd (hn _ _ _ hs.2)
      · exact hs.elim
    · exact hs.elim
  | laload =>
    obtain ⟨hd, e⟩ := xchk_n hc rfl
    rw [e] at hn
    dsimp only at hs hx
    split at hs
    · split at hs
      · rename_i h1 h2
        have e2 := Nat.eq_of_beq_eq_true h2
        subst e2
        exact xc_hld hs.1 hd (hn _ _ _ hs.2)
      · rename_i h1 h2
        have hkd := Nat.eq_of_beq_eq_true h1
        have hlt := xkd_l hkd h2
        exact xc_lald hkd hlt hlt hs.1 hd (hn _ _ _ hs.2)
      · exact hs.elim
    · exact hs.elim
  | baload =>
    obtain ⟨hd, e⟩ := xchk_n hc rfl
    rw [e] at hn
    dsimp only at hs hx
    split at hs
    · split at hs
      · rename_i h1
        have hkd := Nat.eq_of_beq_eq_true h1
        have hlt := xkd_z hkd
        exact xc_zald hkd hlt hlt hs.1 hd (hn _ _ _ hs.2)
      · exact hs.elim
    · exact hs.elim
  | iastore =>
    obtain ⟨hd, e⟩ := xchk_n hc rfl
    rw [e] at hn
    dsimp only at hs hx
    split at hs
    · split at hs
      · rename_i h1 h2
        have hkd := Nat.eq_of_beq_eq_true h1
        exact xc_iast hkd (xblt h2) (xblt h2) hs.1 hd (hn _ _ _ hs.2)
      · exact hs.elim
    · exact hs.elim
  | lastore =>
    obtain ⟨hd, e⟩ := xchk_n hc rfl
    rw [e] at hn
    dsimp only at hs hx
    split at hs
    · split at hs
      · rename_i h1 h2
        have hkd := Nat.eq_of_beq_eq_true h1
        exact xc_last hkd (xblt h2) (xblt h2) hs.1 hd (hn _ _ _ hs.2)
      · exact hs.elim
    · exact hs.elim
  | bastore =>
    obtain ⟨hd, e⟩ := xchk_n hc rfl
    rw [e] at hn
    dsimp only at hs hx
    split at hs
    · split at hs
      · rename_i h1 h2
        have hkd := Nat.eq_of_beq_eq_true h1
        exact xc_zast hkd (xblt h2) (xblt h2) hs.1 hs.2.1 hd (hn _ _ _ hs.2.2)
      · exact hs.elim
    · exact hs.elim
  | _ => exact hs.elim
theorem xchk_app {B : ByteArray} {k : xK} : ∀ (a : List xRw) (m : xRw) (b : List xRw), xchk B k (a ++ [m]) = true → xchk B k (m :: b) = true → xchk B k (a ++ m :: b) = true
  | [], _, _, _, h => h
  | [(pc, ins, a1, a2, v)], m, b, h, h2 => by
    have h1 : xchk B k [(pc, ins, a1, a2, v), m] = true := h
    show xchk B k ((pc, ins, a1, a2, v) :: m :: b) = true
    unfold xchk at h1 ⊢
    rw [Bool.and_eq_true] at h1 ⊢
    exact ⟨h1.1, h2⟩
  | (pc, ins, a1, a2, v) :: r2 :: a, m, b, h, h2 => by
    have h1 : xchk B k ((pc, ins, a1, a2, v) :: r2 :: (a ++ [m])) = true := h
    have h3 := xchk_app (r2 :: a) m b (xchk_tl h1) h2
    show xchk B k ((pc, ins, a1, a2, v) :: r2 :: (a ++ m :: b)) = true
    unfold xchk at h1 ⊢
    rw [Bool.and_eq_true] at h1 ⊢
    exact ⟨h1.1, h3⟩
/-- many steps: what holds where they stop is enough -/
theorem xwp_ok {l : Launch} {G : xG} {Y : xMD} {k : xK} {all : List xRw} (ok : xOK Y k all) {stops : List Nat} {cn sn : Nat} {Q : Option Value → xMe → xGh → Prop} : ∀ (n : Nat) (rs : List xRw) (lv : xLv) (st : List Value) (M : xMe) (K : Nat → xLv → List Value → xMe → Prop), xchk (yB Y) k rs = true → (∀ pc lv st M, K pc lv st M → xC l G Y pc lv st M none cn sn Q) → xwp G (yL Y) all stops n rs lv st M K → ∃ r t, rs = r :: t ∧ xC l G Y r.1 lv st M none cn sn Q
  | 0, [], _, _, _, _, _, _, h => h.elim
  | n + 1, [], _, _, _, _, _, _, h => h.elim
  | 0, [_], _, _, _, _, _, _, h => h.elim
  | n + 1, [_], _, _, _, _, _, _, h => h.elim
  | 0, r :: r2 :: rs, lv, st, M, K, _, hK, h => ⟨r, r2 :: rs, rfl, hK _ _ _ _ h⟩
  | n + 1, (pc, ins, a1, a2, v) :: r2 :: rs, lv, st, M, K, hc, hK, h => by
    refine ⟨_, _, rfl, ?_⟩
    unfold xwp at h
    split at h
    · exact hK _ _ _ _ h
    · refine xstp_ok ok.1 hc h (fun lv' st' M' hh => ?_) (fun t lv' st' M' hh => ?_)
      · obtain ⟨pc2, q2⟩ := r2
        dsimp only at hh
        split at hh
        · exact hK _ _ _ _ hh
        · obtain ⟨r, t, e, hC⟩ := xwp_ok ok n _ _ _ _ _ (xchk_tl hc) hK hh
          cases e
          exact hC
      · cases hjm : xjmp all t with
        | nil => rw [hjm] at hh; exact hh.elim
        | cons r rs' =>
          rw [hjm] at hh
          have e1 := xjmp_hd _ _ _ _ hjm
          obtain ⟨pc2, q2⟩ := r
          dsimp only at hh e1
          subst e1
          split at hh
          · exact hK _ _ _ _ hh
          · obtain ⟨r, t, e, hC⟩ := xwp_ok ok n _ _ _ _ _ (xchk_jmp _ _ _ _ ok.2 hjm) hK hh
            cases e
            exact hC
end
section
def xfw (cls : String) (q : Nat × Nat × Nat) : Cond := match xcls[q.2.1]? with
  | some c => .fieldLink cls q.1 (c.2.1 q.2.2).1 (c.2.1 q.2.2).2.1 (c.2.1 q.2.2).2.2.1
  | none => .tt
theorem xKf {cls : String} {L : List (Nat × Nat × Nat)} (ps : List Nat) (h1 : L.all (fun q => match xcls[q.2.1]? with | some c => Nat.blt q.2.2 c.2.2 | none => false) = true) (h2 : L.map (xfw cls) = ps.filterMap (fun i => lw_tbl[i]?)) : ∀ q ∈ L, xFL cls q.1 q.2.1 q.2.2 := by
  intro q hq
  have h3 := List.all_eq_true.mp h1 q hq
  have h4 := xmem ps h2 (xfw cls q) (List.mem_map_of_mem hq)
  unfold xfw at h4
  cases hc : xcls[q.2.1]? with
  | none => rw [hc] at h3; cases h3
  | some c =>
    rw [hc] at h3 h4
    exact ⟨c, hc, Nat.blt_eq.mp h3, xtbm h4 rfl⟩
def xcw (cls : String) (q : Nat × Value) : Cond := match q.2 with
  | .int c => .constant cls q.1 c
  | .long c => .constantLong cls q.1 c
  | _ => .tt
theorem xKc {cls : String} {L : List (Nat × Value)} (ps : List Nat) (h1 : L.all (fun q => match q.2 with | .int _ => true | .long _ => true | _ => false) = true) (h2 : L.map (xcw cls) = ps.filterMap (fun i => lw_tbl[i]?)) : ∀ q ∈ L, match q.2 with | .int c => Cond.constant cls q.1 c ∈ xtb | .long c => Cond.constantLong cls q.1 c ∈ xtb | _ => False := by
  intro q hq
  have h3 := List.all_eq_true.mp h1 q hq
  have h4 := xmem ps h2 (xcw cls q) (List.mem_map_of_mem hq)
  obtain ⟨i, v⟩ := q
  cases v with
  | int c => exact xtbm h4 rfl
  | long c => exact xtbm h4 rfl
  | _ => cases h3
def xk_DS : xK := ([(79, 4, 7), (87, 4, 12), (91, 4, 14), (164, 1, 1), (160, 5, 1), (181, 5, 2), (172, 5, 5), (138, 5, 9), (148, 5, 10), (151, 5, 11), (169, 2, 3), (131, 2, 5), (202, 2, 7), (209, 2, 8), (154, 2, 9), (199, 2, 11), (186, 2, 12), (125, 2, 13), (12, 6, 0), (21, 6, 1), (30, 6, 2), (37, 6, 3), (122, 6, 4), (49, 6, 5)], [], [])
set_option maxRecDepth 20000 in
theorem xk_DS_ok : xKok "DataShrinker" xk_DS := ⟨xKf [131, 148, 151, 202, 210, 212, 216, 222, 225, 228, 277, 280, 283, 285, 288, 291, 294, 295, 375, 376, 377, 378, 379, 380] (by decide +kernel) rfl, xKc [] (by decide +kernel) rfl, fun _ h => absurd h List.not_mem_nil⟩
def xk_Pr : xK := ([(9, 4, 0), (15, 4, 1), (18, 4, 2), (21, 4, 3), (25, 4, 4), (28, 4, 5), (31, 4, 6), (35, 4, 7), (38, 4, 8), (41, 4, 9), (44, 4, 10), (47, 4, 11), (50, 4, 12), (53, 4, 13), (86, 4, 14)], [(70, .long (-1))], [])
set_option maxRecDepth 20000 in
theorem xk_Pr_ok : xKok "DataShrinker$Program" xk_Pr := ⟨xKf [111, 114, 116, 118, 120, 124, 127, 130, 134, 137, 140, 143, 146, 149, 152] (by decide +kernel) rfl, xKc [415] (by decide +kernel) rfl, fun _ h => absurd h List.not_mem_nil⟩
def xk_Re : xK := ([(125, 4, 0), (128, 4, 4), (240, 4, 5), (237, 4, 6), (112, 4, 7), (139, 4, 8), (142, 4, 9), (145, 4, 10), (175, 4, 11), (74, 4, 12), (53, 5, 0), (14, 5, 1), (20, 5, 2), (24, 5, 3), (28, 5, 4), (31, 5, 5), (34, 5, 6), (37, 5, 7), (40, 5, 8), (43, 5, 9), (46, 5, 10), (50, 5, 11)], [(69, .int 1000000), (166, .long (-1)), (227, .long (-2)), (83, .long (-1099511627777))], [])
set_option maxRecDepth 20000 in
theorem xk_Re_ok : xKok "DataShrinker$Reach" xk_Re := ⟨xKf [112, 122, 126, 129, 132, 135, 139, 142, 145, 147, 208, 209, 211, 213, 214, 215, 217, 218, 219, 220, 223, 226] (by decide +kernel) rfl, xKc [669, 681, 722, 894] (by decide +kernel) rfl, fun _ h => absurd h List.not_mem_nil⟩
def xk_Ch : xK := ([(9, 1, 0), (15, 1, 1)], [(32, .long (-1))], [])
set_option maxRecDepth 20000 in
theorem xk_Ch_ok : xKok "DataShrinker$Chains" xk_Ch := ⟨xKf [200, 201] (by decide +kernel) rfl, xKc [768] (by decide +kernel) rfl, fun _ h => absurd h List.not_mem_nil⟩
def xk_La : xK := ([(93, 4, 0), (102, 4, 1), (118, 4, 2), (109, 4, 3), (143, 4, 4), (124, 4, 6), (112, 5, 9), (121, 5, 10), (127, 5, 11), (47, 2, 0), (51, 2, 1), (12, 2, 2), (18, 2, 3), (22, 2, 4), (25, 2, 5), (29, 2, 6), (32, 2, 7), (35, 2, 8), (38, 2, 9), (41, 2, 10), (154, 2, 11), (44, 2, 12), (165, 2, 13)], [], [])
set_option maxRecDepth 20000 in
theorem xk_La_ok : xKok "DataShrinker$Layout" xk_La := ⟨xKf [113, 115, 117, 119, 123, 128, 221, 224, 227, 273, 274, 275, 276, 278, 279, 281, 282, 284, 286, 289, 290, 292, 296] (by decide +kernel) rfl, xKc [] (by decide +kernel) rfl, fun _ h => absurd h List.not_mem_nil⟩
def xk_BO : xK := ([(11, 0, 0), (15, 0, 1)], [(36, .int 1000000)], [])
set_option maxRecDepth 20000 in
theorem xk_BO_ok : xKok "DataShrinker$BlockOrder" xk_BO := ⟨xKf [266, 267] (by decide +kernel) rfl, xKc [839] (by decide +kernel) rfl, fun _ h => absurd h List.not_mem_nil⟩
def xk_Ma : xK := ([(34, 4, 4), (166, 4, 5), (83, 4, 7), (114, 4, 8), (105, 4, 9), (108, 4, 10), (111, 4, 11), (160, 4, 13), (157, 4, 14), (45, 2, 9), (50, 2, 12), (30, 3, 0), (9, 3, 1), (15, 3, 2), (18, 3, 3), (21, 3, 4), (24, 3, 5), (27, 3, 6), (51, 3, 7), (86, 3, 8), (62, 3, 9), (65, 3, 10), (102, 3, 11), (55, 3, 12), (59, 3, 13)], [(82, .int 1000000)], [])
set_option maxRecDepth 20000 in
theorem xk_Ma_ok : xKok "DataShrinker$Machine" xk_Ma := ⟨xKf [121, 125, 133, 136, 138, 141, 144, 150, 153, 287, 293, 332, 333, 334, 335, 336, 337, 338, 339, 340, 341, 342, 343, 344, 345] (by decide +kernel) rfl, xKc [511] (by decide +kernel) rfl, fun _ h => absurd h List.not_mem_nil⟩
def xk_JM : xK := ([], [], [])
set_option maxRecDepth 20000 in
theorem xk_JM_ok : xKok "java/lang/Math" xk_JM := ⟨xKf [] (by decide +kernel) rfl, xKc [] (by decide +kernel) rfl, fun _ h => absurd h List.not_mem_nil⟩
def xk_JA : xK := ([], [], [])
set_option maxRecDepth 20000 in
theorem xk_JA_ok : xKok "java/util/Arrays" xk_JA := ⟨xKf [] (by decide +kernel) rfl, xKc [] (by decide +kernel) rfl, fun _ h => absurd h List.not_mem_nil⟩
def xk_OS : xK := ([], [(21, .long (-1))], [35])
set_option maxRecDepth 20000 in
theorem xk_OS_ok : xKok "DataShrinker$OctetSet" xk_OS := ⟨xKf [] (by decide +kernel) rfl, xKc [664] (by decide +kernel) rfl, List.forall_mem_cons.mpr ⟨xtbm (List.mem_of_getElem? (i := 746) rfl) rfl, fun _ h => absurd h List.not_mem_nil⟩⟩
def xk_JL : xK := ([], [(314, .long 6148914691236517205), (316, .long 3689348814741910323), (318, .long 1085102592571150095)], [])
set_option maxRecDepth 20000 in
theorem xk_JL_ok : xKok "java/lang/Long" xk_JL := ⟨xKf [] (by decide +kernel) rfl, xKc [878, 879, 880] (by decide +kernel) rfl, fun _ h => absurd h List.not_mem_nil⟩
def xk_JI : xK := ([], [(264, .int 65536)], [])
set_option maxRecDepth 20000 in
theorem xk_JI_ok : xKok "java/lang/Integer" xk_JI := ⟨xKf [] (by decide +kernel) rfl, xKc [680] (by decide +kernel) rfl, fun _ h => absurd h List.not_mem_nil⟩
def xk_Mo : xK := ([(9, 7, 1), (13, 7, 2), (16, 7, 3), (19, 7, 4), (22, 7, 5), (25, 7, 6), (29, 7, 7), (32, 7, 8), (35, 7, 9), (38, 7, 10), (41, 7, 11), (44, 7, 12), (47, 7, 13), (182, 7, 14), (50, 7, 15), (53, 7, 16), (56, 7, 17), (59, 7, 18), (62, 7, 19), (191, 7, 20), (194, 7, 21), (65, 7, 22), (69, 7, 23), (188, 7, 24), (185, 7, 25), (161, 7, 26), (205, 7, 27), (72, 7, 28), (76, 7, 29), (79, 7, 30), (82, 7, 31), (85, 7, 32), (88, 7, 33), (91, 7, 34), (94, 7, 35), (97, 7, 36), (100, 7, 37), (103, 7, 38), (208, 7, 39), (106, 7, 40), (109, 7, 41), (112, 7, 42), (115, 7, 43), (118, 7, 44), (121, 7, 45), (124, 7, 46), (127, 7, 47), (130, 7, 48), (133, 7, 49), (136, 7, 50), (139, 7, 51), (142, 7, 52), (145, 7, 53), (148, 7, 54), (151, 7, 55), (267, 7, 56), (286, 7, 57), (273, 7, 58)], [(169, .long 255), (246, .long (-2)), (241, .long (-1))], [])
set_option maxRecDepth 20000 in
theorem xk_Mo_ok : xKok "DataShrinkerModel" xk_Mo := ⟨xKf [943, 944, 945, 946, 947, 948, 949, 950, 951, 952, 953, 954, 955, 956, 957, 958, 959, 960, 961, 962, 963, 964, 965, 966, 967, 968, 969, 970, 971, 972, 973, 974, 975, 976, 977, 978, 979, 980, 981, 982, 983, 984, 985, 986, 987, 988, 989, 990, 991, 992, 993, 994, 995, 996, 997, 998, 999, 1000] (by decide +kernel) rfl, xKc [1135, 1241, 1242] (by decide +kernel) rfl, fun _ h => absurd h List.not_mem_nil⟩
def xk_Lw : xK := ([], [(18, .long 4294967295)], [])
set_option maxRecDepth 20000 in
theorem xk_Lw_ok : xKok "DataShrinkerLaw" xk_Lw := ⟨xKf [] (by decide +kernel) rfl, xKc [1322] (by decide +kernel) rfl, fun _ h => absurd h List.not_mem_nil⟩
end
section
def y_DS_init : xMD := (⟨"DataShrinker", "<init>", "()V"⟩, prog_1_method_1_code, 1, none, { frames := 3, cells := 49, slots := 24878, locals := 62 })
def r_DS_init : List xRw := [(0, .aload_n 0, 0, 0, .null),
  (1, .invokespecial 3, 0, 0, .null),
  (4, .aload_n 0, 0, 0, .null),
  (5, .new 9, 0, 0, .null),
  (8, .dup, 0, 0, .null),
  (9, .invokespecial 11, 0, 0, .null),
  (12, .putfield 12, 0, 6, .null),
  (15, .aload_n 0, 0, 0, .null),
  (16, .new 16, 0, 0, .null),
  (19, .dup, 0, 0, .null),
  (20, .aload_n 0, 0, 0, .null),
  (21, .getfield 12, 0, 6, .null),
  (24, .invokespecial 18, 0, 0, .null),
  (27, .putfield 21, 1, 6, .null),
  (30, .aload_n 0, 0, 0, .null),
  (31, .new 25, 0, 0, .null),
  (34, .dup, 0, 0, .null),
  (35, .aload_n 0, 0, 0, .null),
  (36, .getfield 12, 0, 6, .null),
  (39, .aload_n 0, 0, 0, .null),
  (40, .getfield 21, 1, 6, .null),
  (43, .invokespecial 27, 0, 0, .null),
  (46, .putfield 30, 2, 6, .null),
  (49, .aload_n 0, 0, 0, .null),
  (50, .new 34, 0, 0, .null),
  (53, .dup, 0, 0, .null),
  (54, .aload_n 0, 0, 0, .null),
  (55, .getfield 12, 0, 6, .null),
  (58, .invokespecial 36, 0, 0, .null),
  (61, .putfield 37, 3, 6, .null),
  (64, .return_, 0, 0, .null),
  (65, .nop, 0, 0, .null)]
theorem o_DS_init : xOK y_DS_init xk_DS r_DS_init := ⟨xk_DS_ok, by decide +kernel⟩
def y_Pr_init : xMD := (⟨"DataShrinker$Program", "<init>", "()V"⟩, prog_7_method_1_code, 1, none, { frames := 1, cells := 14, slots := 5336, locals := 20 })
def r_Pr_init : List xRw := [(0, .aload_n 0, 0, 0, .null),
  (1, .invokespecial 3, 0, 0, .null),
  (4, .aload_n 0, 0, 0, .null),
  (5, .bipush 24, 0, 0, .int 24),
  (7, .newarray .int, 0, 0, .null),
  (9, .putfield 9, 0, 4, .null),
  (12, .aload_n 0, 0, 0, .null),
  (13, .bipush 24, 0, 0, .int 24),
  (15, .newarray .int, 0, 0, .null),
  (17, .putfield 15, 1, 4, .null),
  (20, .aload_n 0, 0, 0, .null),
  (21, .bipush 24, 0, 0, .int 24),
  (23, .newarray .int, 0, 0, .null),
  (25, .putfield 18, 2, 4, .null),
  (28, .aload_n 0, 0, 0, .null),
  (29, .bipush 24, 0, 0, .int 24),
  (31, .newarray .boolean, 0, 0, .null),
  (33, .putfield 21, 3, 4, .null),
  (36, .aload_n 0, 0, 0, .null),
  (37, .sipush 1536, 0, 0, .int 1536),
  (40, .newarray .int, 0, 0, .null),
  (42, .putfield 25, 4, 4, .null),
  (45, .aload_n 0, 0, 0, .null),
  (46, .sipush 1536, 0, 0, .int 1536),
  (49, .newarray .int, 0, 0, .null),
  (51, .putfield 28, 5, 4, .null),
  (54, .aload_n 0, 0, 0, .null),
  (55, .bipush 24, 0, 0, .int 24),
  (57, .newarray .long, 0, 0, .null),
  (59, .putfield 31, 6, 4, .null),
  (62, .aload_n 0, 0, 0, .null),
  (63, .bipush 12, 0, 0, .int 12),
  (65, .newarray .int, 0, 0, .null),
  (67, .putfield 35, 7, 4, .null),
  (70, .aload_n 0, 0, 0, .null),
  (71, .sipush 480, 0, 0, .int 480),
  (74, .newarray .int, 0, 0, .null),
  (76, .putfield 38, 8, 4, .null),
  (79, .aload_n 0, 0, 0, .null),
  (80, .sipush 480, 0, 0, .int 480),
  (83, .newarray .int, 0, 0, .null),
  (85, .putfield 41, 9, 4, .null),
  (88, .aload_n 0, 0, 0, .null),
  (89, .sipush 480, 0, 0, .int 480),
  (92, .newarray .int, 0, 0, .null),
  (94, .putfield 44, 10, 4, .null),
  (97, .aload_n 0, 0, 0, .null),
  (98, .sipush 480, 0, 0, .int 480),
  (101, .newarray .int, 0, 0, .null),
  (103, .putfield 47, 11, 4, .null),
  (106, .aload_n 0, 0, 0, .null),
  (107, .bipush 12, 0, 0, .int 12),
  (109, .newarray .boolean, 0, 0, .null),
  (111, .putfield 50, 12, 4, .null),
  (114, .aload_n 0, 0, 0, .null),
  (115, .sipush 200, 0, 0, .int 200),
  (118, .newarray .int, 0, 0, .null),
  (120, .putfield 53, 13, 4, .null),
  (123, .return_, 0, 0, .null),
  (124, .nop, 0, 0, .null)]
theorem o_Pr_init : xOK y_Pr_init xk_Pr r_Pr_init := ⟨xk_Pr_ok, by decide +kernel⟩
def y_Ch_init : xMD := (⟨"DataShrinker$Chains", "<init>", "()V"⟩, prog_3_method_1_code, 1, none, { frames := 1, cells := 2, slots := 72, locals := 20 })
def r_Ch_init : List xRw := [(0, .aload_n 0, 0, 0, .null),
  (1, .invokespecial 3, 0, 0, .null),
  (4, .aload_n 0, 0, 0, .null),
  (5, .bipush 36, 0, 0, .int 36),
  (7, .newarray .long, 0, 0, .null),
  (9, .putfield 9, 0, 1, .null),
  (12, .aload_n 0, 0, 0, .null),
  (13, .bipush 36, 0, 0, .int 36),
  (15, .newarray .int, 0, 0, .null),
  (17, .putfield 15, 1, 1, .null),
  (20, .return_, 0, 0, .null),
  (21, .nop, 0, 0, .null)]
theorem o_Ch_init : xOK y_Ch_init xk_Ch r_Ch_init := ⟨xk_Ch_ok, by decide +kernel⟩
def y_BO_init : xMD := (⟨"DataShrinker$BlockOrder", "<init>", "()V"⟩, prog_2_method_1_code, 1, none, { frames := 1, cells := 2, slots := 1031, locals := 20 })
def r_BO_init : List xRw := [(0, .aload_n 0, 0, 0, .null),
  (1, .invokespecial 3, 0, 0, .null),
  (4, .aload_n 0, 0, 0, .null),
  (5, .bipush 7, 0, 0, .int 7),
  (7, .newarray .int, 0, 0, .null),
  (9, .putfield 11, 0, 0, .null),
  (12, .aload_n 0, 0, 0, .null),
  (13, .sipush 1024, 0, 0, .int 1024),
  (16, .newarray .int, 0, 0, .null),
  (18, .putfield 15, 1, 0, .null),
  (21, .return_, 0, 0, .null),
  (22, .nop, 0, 0, .null)]
theorem o_BO_init : xOK y_BO_init xk_BO r_BO_init := ⟨xk_BO_ok, by decide +kernel⟩
def y_DS_item : xMD := (⟨"DataShrinker", "item", "(IIIIZ)Z"⟩, prog_1_method_2_code, 6, (some .boolean), { frames := 2, cells := 0, slots := 0, locals := 49 })
def r_DS_item : List xRw := [(0, .iload_n 1, 1, 0, .null),
  (1, .iload_n 2, 2, 0, .null),
  (2, .iload_n 3, 3, 0, .null),
  (3, .iload 4, 4, 0, .null),
  (5, .invokestatic 41, 0, 0, .null),
  (8, .ifCond .ne 5, 13, 0, .null),
  (11, .iconst 0, 0, 0, .int 0),
  (12, .ireturn, 0, 0, .null),
  (13, .aload_n 0, 0, 0, .null),
  (14, .getfield 12, 0, 6, .null),
  (17, .iload_n 1, 1, 0, .null),
  (18, .iload_n 2, 2, 0, .null),
  (19, .iload_n 3, 3, 0, .null),
  (20, .iload 4, 4, 0, .null),
  (22, .iload 5, 5, 0, .null),
  (24, .invokevirtual 45, 0, 0, .null),
  (27, .aload_n 0, 0, 0, .null),
  (28, .iconst 0, 0, 0, .int 0),
  (29, .putfield 49, 5, 6, .long 0),
  (32, .iconst 1, 0, 0, .int 1),
  (33, .ireturn, 0, 0, .null),
  (34, .nop, 0, 0, .null)]
theorem o_DS_item : xOK y_DS_item xk_DS r_DS_item := ⟨xk_DS_ok, by decide +kernel⟩
def y_Pr_isItem : xMD := (⟨"DataShrinker$Program", "isItem", "(IIII)Z"⟩, prog_7_method_2_code, 5, (some .boolean), { frames := 1, cells := 0, slots := 0, locals := 22 })
def r_Pr_isItem : List xRw := [(0, .iload_n 2, 2, 0, .null),
  (1, .iconst 1, 0, 0, .int 1),
  (2, .if_icmp .eq 19, 21, 0, .null),
  (5, .iload_n 2, 2, 0, .null),
  (6, .iconst 2, 0, 0, .int 2),
  (7, .if_icmp .eq 14, 21, 0, .null),
  (10, .iload_n 2, 2, 0, .null),
  (11, .iconst 4, 0, 0, .int 4),
  (12, .if_icmp .eq 9, 21, 0, .null),
  (15, .iload_n 2, 2, 0, .null),
  (16, .bipush 8, 0, 0, .int 8),
  (18, .if_icmp .ne 7, 25, 0, .null),
  (21, .iconst 1, 0, 0, .int 1),
  (22, .goto 4, 26, 0, .null),
  (25, .iconst 0, 0, 0, .int 0),
  (26, .istore 4, 4, 0, .null),
  (28, .iload_n 0, 0, 0, .null),
  (29, .invokestatic 56, 0, 0, .null),
  (32, .ifCond .eq 31, 63, 0, .null),
  (35, .iload_n 1, 1, 0, .null),
  (36, .iconst 0, 0, 0, .int 0),
  (37, .bipush 64, 0, 0, .int 64),
  (39, .invokestatic 60, 0, 0, .null),
  (42, .ifCond .eq 21, 63, 0, .null),
  (45, .iload 4, 4, 0, .null),
  (47, .ifCond .eq 16, 63, 0, .null),
  (50, .iload_n 3, 3, 0, .null),
  (51, .iconst 0, 0, 0, .int 0),
  (52, .iconst 3, 0, 0, .int 3),
  (53, .invokestatic 60, 0, 0, .null),
  (56, .ifCond .eq 7, 63, 0, .null),
  (59, .iconst 1, 0, 0, .int 1),
  (60, .goto 4, 64, 0, .null),
  (63, .iconst 0, 0, 0, .int 0),
  (64, .ireturn, 0, 0, .null),
  (65, .nop, 0, 0, .null)]
theorem o_Pr_isItem : xOK y_Pr_isItem xk_Pr r_Pr_isItem := ⟨xk_Pr_ok, by decide +kernel⟩
def y_DS_isItemNumber : xMD := (⟨"DataShrinker", "isItemNumber", "(I)Z"⟩, prog_1_method_23_code, 1, (some .boolean), { frames := 0, cells := 0, slots := 0, locals := 0 })
def r_DS_isItemNumber : List xRw := [(0, .iload_n 0, 0, 0, .null),
  (1, .ifCond .lt 13, 14, 0, .null),
  (4, .iload_n 0, 0, 0, .null),
  (5, .bipush 24, 0, 0, .int 24),
  (7, .if_icmp .ge 7, 14, 0, .null),
  (10, .iconst 1, 0, 0, .int 1),
  (11, .goto 4, 15, 0, .null),
  (14, .iconst 0, 0, 0, .int 0),
  (15, .ireturn, 0, 0, .null),
  (16, .nop, 0, 0, .null)]
theorem o_DS_isItemNumber : xOK y_DS_isItemNumber xk_DS r_DS_isItemNumber := ⟨xk_DS_ok, by decide +kernel⟩
def y_DS_within : xMD := (⟨"DataShrinker", "within", "(III)Z"⟩, prog_1_method_22_code, 3, (some .boolean), { frames := 0, cells := 0, slots := 0, locals := 0 })
def r_DS_within : List xRw := [(0, .iload_n 0, 0, 0, .null),
  (1, .iload_n 1, 1, 0, .null),
  (2, .if_icmp .lt 12, 14, 0, .null),
  (5, .iload_n 0, 0, 0, .null),
  (6, .iload_n 2, 2, 0, .null),
  (7, .if_icmp .gt 7, 14, 0, .null),
  (10, .iconst 1, 0, 0, .int 1),
  (11, .goto 4, 15, 0, .null),
  (14, .iconst 0, 0, 0, .int 0),
  (15, .ireturn, 0, 0, .null),
  (16, .nop, 0, 0, .null)]
theorem o_DS_within : xOK y_DS_within xk_DS r_DS_within := ⟨xk_DS_ok, by decide +kernel⟩
def y_Pr_tellItem : xMD := (⟨"DataShrinker$Program", "tellItem", "(IIIIZ)V"⟩, prog_7_method_8_code, 7, none, { frames := 1, cells := 0, slots := 0, locals := 23 })
def r_Pr_tellItem : List xRw := [(0, .aload_n 0, 0, 0, .null),
  (1, .getfield 9, 0, 4, .null),
  (4, .iload_n 1, 1, 0, .null),
  (5, .iload_n 2, 2, 0, .null),
  (6, .iastore, 0, 0, .null),
  (7, .aload_n 0, 0, 0, .null),
  (8, .getfield 15, 1, 4, .null),
  (11, .iload_n 1, 1, 0, .null),
  (12, .iload_n 3, 3, 0, .null),
  (13, .iastore, 0, 0, .null),
  (14, .aload_n 0, 0, 0, .null),
  (15, .getfield 18, 2, 4, .null),
  (18, .iload_n 1, 1, 0, .null),
  (19, .iload 4, 4, 0, .null),
  (21, .iastore, 0, 0, .null),
  (22, .aload_n 0, 0, 0, .null),
  (23, .getfield 21, 3, 4, .null),
  (26, .iload_n 1, 1, 0, .null),
  (27, .iload 5, 5, 0, .null),
  (29, .bastore, 0, 0, .null),
  (30, .aload_n 0, 0, 0, .null),
  (31, .getfield 31, 6, 4, .null),
  (34, .iload_n 1, 1, 0, .null),
  (35, .lconst 0, 0, 0, .long 0),
  (36, .lastore, 0, 0, .null),
  (37, .iconst 0, 0, 0, .int 0),
  (38, .istore 6, 6, 0, .null),
  (40, .iload 6, 6, 0, .null),
  (42, .bipush 64, 0, 0, .int 64),
  (44, .if_icmp .ge 22, 66, 0, .null),
  (47, .aload_n 0, 0, 0, .null),
  (48, .getfield 25, 4, 4, .null),
  (51, .iload_n 1, 1, 0, .null),
  (52, .bipush 64, 0, 0, .int 64),
  (54, .imul, 0, 0, .null),
  (55, .iload 6, 6, 0, .null),
  (57, .iadd, 0, 0, .null),
  (58, .iconst 0, 0, 0, .int 0),
  (59, .iastore, 0, 0, .null),
  (60, .iinc 6 1, 6, 0, .int 1),
  (63, .goto (-23), 40, 0, .null),
  (66, .iload_n 2, 2, 0, .null),
  (67, .ifCond .ne 8, 75, 0, .null),
  (70, .aload_n 0, 0, 0, .null),
  (71, .iload_n 1, 1, 0, .null),
  (72, .invokevirtual 72, 0, 0, .null),
  (75, .return_, 0, 0, .null),
  (76, .nop, 0, 0, .null)]
theorem o_Pr_tellItem : xOK y_Pr_tellItem xk_Pr r_Pr_tellItem := ⟨xk_Pr_ok, by decide +kernel⟩
def y_Pr_forgetReferencesTo : xMD := (⟨"DataShrinker$Program", "forgetReferencesTo", "(I)V"⟩, prog_7_method_9_code, 4, none, { frames := 0, cells := 0, slots := 0, locals := 0 })
def r_Pr_forgetReferencesTo : List xRw := [(0, .iconst 0, 0, 0, .int 0),
  (1, .istore_n 2, 2, 0, .null),
  (2, .iload_n 2, 2, 0, .null),
  (3, .bipush 24, 0, 0, .int 24),
  (5, .if_icmp .ge 58, 63, 0, .null),
  (8, .iconst 0, 0, 0, .int 0),
  (9, .istore_n 3, 3, 0, .null),
  (10, .iload_n 3, 3, 0, .null),
  (11, .aload_n 0, 0, 0, .null),
  (12, .getfield 9, 0, 4, .null),
  (15, .iload_n 2, 2, 0, .null),
  (16, .iaload, 0, 0, .null),
  (17, .if_icmp .ge 40, 57, 0, .null),
  (20, .aload_n 0, 0, 0, .null),
  (21, .getfield 28, 5, 4, .null),
  (24, .iload_n 2, 2, 0, .null),
  (25, .bipush 64, 0, 0, .int 64),
  (27, .imul, 0, 0, .null),
  (28, .iload_n 3, 3, 0, .null),
  (29, .iadd, 0, 0, .null),
  (30, .iaload, 0, 0, .null),
  (31, .iload_n 1, 1, 0, .null),
  (32, .if_icmp .ne 19, 51, 0, .null),
  (35, .aload_n 0, 0, 0, .null),
  (36, .getfield 31, 6, 4, .null),
  (39, .iload_n 2, 2, 0, .null),
  (40, .dup2, 0, 0, .null),
  (41, .laload, 0, 0, .null),
  (42, .lconst 1, 0, 0, .long 1),
  (43, .iload_n 3, 3, 0, .null),
  (44, .lshl, 0, 0, .null),
  (45, .ldc2_w 70, 0, 0, .long (-1)),
  (48, .lxor, 0, 0, .null),
  (49, .land, 0, 0, .null),
  (50, .lastore, 0, 0, .null),
  (51, .iinc 3 1, 3, 0, .int 1),
  (54, .goto (-44), 10, 0, .null),
  (57, .iinc 2 1, 2, 0, .int 1),
  (60, .goto (-58), 2, 0, .null),
  (63, .return_, 0, 0, .null),
  (64, .nop, 0, 0, .null)]
theorem o_Pr_forgetReferencesTo : xOK y_Pr_forgetReferencesTo xk_Pr r_Pr_forgetReferencesTo := ⟨xk_Pr_ok, by decide +kernel⟩
def y_DS_bytes : xMD := (⟨"DataShrinker", "bytes", "(IIIJ)I"⟩, prog_1_method_3_code, 6, (some .int), { frames := 2, cells := 0, slots := 0, locals := 49 })
def r_DS_bytes : List xRw := [(0, .aload_n 0, 0, 0, .null),
  (1, .getfield 12, 0, 6, .null),
  (4, .iload_n 1, 1, 0, .null),
  (5, .iload_n 2, 2, 0, .null),
  (6, .invokevirtual 53, 0, 0, .null),
  (9, .ifCond .eq 13, 22, 0, .null),
  (12, .iload_n 3, 3, 0, .null),
  (13, .iconst 1, 0, 0, .int 1),
  (14, .bipush 8, 0, 0, .int 8),
  (16, .invokestatic 57, 0, 0, .null),
  (19, .ifCond .ne 5, 24, 0, .null),
  (22, .iconst (-1), 0, 0, .int (-1)),
  (23, .ireturn, 0, 0, .null),
  (24, .aload_n 0, 0, 0, .null),
  (25, .iconst 0, 0, 0, .int 0),
  (26, .putfield 49, 5, 6, .long 0),
  (29, .aload_n 0, 0, 0, .null),
  (30, .getfield 12, 0, 6, .null),
  (33, .iload_n 1, 1, 0, .null),
  (34, .iload_n 2, 2, 0, .null),
  (35, .iload_n 3, 3, 0, .null),
  (36, .lload 4, 4, 0, .null),
  (38, .invokevirtual 61, 0, 0, .null),
  (41, .ireturn, 0, 0, .null),
  (42, .nop, 0, 0, .null)]
theorem o_DS_bytes : xOK y_DS_bytes xk_DS r_DS_bytes := ⟨xk_DS_ok, by decide +kernel⟩
def y_Pr_hasPlace : xMD := (⟨"DataShrinker$Program", "hasPlace", "(II)Z"⟩, prog_7_method_5_code, 3, (some .boolean), { frames := 1, cells := 0, slots := 0, locals := 22 })
def r_Pr_hasPlace : List xRw := [(0, .iload_n 1, 1, 0, .null),
  (1, .invokestatic 56, 0, 0, .null),
  (4, .ifCond .eq 23, 27, 0, .null),
  (7, .iload_n 2, 2, 0, .null),
  (8, .iconst 0, 0, 0, .int 0),
  (9, .aload_n 0, 0, 0, .null),
  (10, .getfield 9, 0, 4, .null),
  (13, .iload_n 1, 1, 0, .null),
  (14, .iaload, 0, 0, .null),
  (15, .iconst 1, 0, 0, .int 1),
  (16, .isub, 0, 0, .null),
  (17, .invokestatic 60, 0, 0, .null),
  (20, .ifCond .eq 7, 27, 0, .null),
  (23, .iconst 1, 0, 0, .int 1),
  (24, .goto 4, 28, 0, .null),
  (27, .iconst 0, 0, 0, .int 0),
  (28, .ireturn, 0, 0, .null),
  (29, .nop, 0, 0, .null)]
theorem o_Pr_hasPlace : xOK y_Pr_hasPlace xk_Pr r_Pr_hasPlace := ⟨xk_Pr_ok, by decide +kernel⟩
def y_Pr_tellOctets : xMD := (⟨"DataShrinker$Program", "tellOctets", "(IIIJ)I"⟩, prog_7_method_10_code, 8, (some .int), { frames := 1, cells := 0, slots := 0, locals := 22 })
def r_Pr_tellOctets : List xRw := [(0, .iload_n 3, 3, 0, .null),
  (1, .aload_n 0, 0, 0, .null),
  (2, .getfield 9, 0, 4, .null),
  (5, .iload_n 1, 1, 0, .null),
  (6, .iaload, 0, 0, .null),
  (7, .iload_n 2, 2, 0, .null),
  (8, .isub, 0, 0, .null),
  (9, .invokestatic 76, 0, 0, .null),
  (12, .istore 6, 6, 0, .null),
  (14, .iconst 0, 0, 0, .int 0),
  (15, .istore 7, 7, 0, .null),
  (17, .iload 7, 7, 0, .null),
  (19, .iload 6, 6, 0, .null),
  (21, .if_icmp .ge 30, 51, 0, .null),
  (24, .aload_n 0, 0, 0, .null),
  (25, .getfield 25, 4, 4, .null),
  (28, .iload_n 1, 1, 0, .null),
  (29, .bipush 64, 0, 0, .int 64),
  (31, .imul, 0, 0, .null),
  (32, .iload_n 2, 2, 0, .null),
  (33, .iadd, 0, 0, .null),
  (34, .iload 7, 7, 0, .null),
  (36, .iadd, 0, 0, .null),
  (37, .lload 4, 4, 0, .null),
  (39, .iload 7, 7, 0, .null),
  (41, .invokestatic 82, 0, 0, .null),
  (44, .iastore, 0, 0, .null),
  (45, .iinc 7 1, 7, 0, .int 1),
  (48, .goto (-31), 17, 0, .null),
  (51, .iload 6, 6, 0, .null),
  (53, .ireturn, 0, 0, .null),
  (54, .nop, 0, 0, .null)]
theorem o_Pr_tellOctets : xOK y_Pr_tellOctets xk_Pr r_Pr_tellOctets := ⟨xk_Pr_ok, by decide +kernel⟩
def y_JM_min : xMD := (⟨"java/lang/Math", "min", "(II)I"⟩, prog_13_method_69_code, 2, (some .int), { frames := 0, cells := 0, slots := 0, locals := 0 })
def r_JM_min : List xRw := [(0, .iload_n 0, 0, 0, .null),
  (1, .iload_n 1, 1, 0, .null),
  (2, .if_icmp .gt 7, 9, 0, .null),
  (5, .iload_n 0, 0, 0, .null),
  (6, .goto 4, 10, 0, .null),
  (9, .iload_n 1, 1, 0, .null),
  (10, .ireturn, 0, 0, .null),
  (11, .nop, 0, 0, .null)]
theorem o_JM_min : xOK y_JM_min xk_JM r_JM_min := ⟨xk_JM_ok, by decide +kernel⟩
def y_DS_octetOf : xMD := (⟨"DataShrinker", "octetOf", "(JI)I"⟩, prog_1_method_28_code, 3, (some .int), { frames := 0, cells := 0, slots := 0, locals := 0 })
def r_DS_octetOf : List xRw := [(0, .lload_n 0, 0, 0, .null),
  (1, .bipush 8, 0, 0, .int 8),
  (3, .bipush 7, 0, 0, .int 7),
  (5, .iload_n 2, 2, 0, .null),
  (6, .isub, 0, 0, .null),
  (7, .imul, 0, 0, .null),
  (8, .lushr, 0, 0, .null),
  (9, .l2i, 0, 0, .null),
  (10, .sipush 255, 0, 0, .int 255),
  (13, .iand, 0, 0, .null),
  (14, .ireturn, 0, 0, .null),
  (15, .nop, 0, 0, .null)]
theorem o_DS_octetOf : xOK y_DS_octetOf xk_DS r_DS_octetOf := ⟨xk_DS_ok, by decide +kernel⟩
def y_DS_refer : xMD := (⟨"DataShrinker", "refer", "(III)Z"⟩, prog_1_method_4_code, 4, (some .boolean), { frames := 2, cells := 0, slots := 0, locals := 44 })
def r_DS_refer : List xRw := [(0, .aload_n 0, 0, 0, .null),
  (1, .getfield 12, 0, 6, .null),
  (4, .iload_n 1, 1, 0, .null),
  (5, .iload_n 2, 2, 0, .null),
  (6, .invokevirtual 53, 0, 0, .null),
  (9, .ifCond .eq 19, 28, 0, .null),
  (12, .iload_n 3, 3, 0, .null),
  (13, .iconst (-1), 0, 0, .int (-1)),
  (14, .if_icmp .eq 16, 30, 0, .null),
  (17, .aload_n 0, 0, 0, .null),
  (18, .getfield 12, 0, 6, .null),
  (21, .iload_n 3, 3, 0, .null),
  (22, .invokevirtual 65, 0, 0, .null),
  (25, .ifCond .ne 5, 30, 0, .null),
  (28, .iconst 0, 0, 0, .int 0),
  (29, .ireturn, 0, 0, .null),
  (30, .aload_n 0, 0, 0, .null),
  (31, .getfield 12, 0, 6, .null),
  (34, .iload_n 1, 1, 0, .null),
  (35, .iload_n 2, 2, 0, .null),
  (36, .iload_n 3, 3, 0, .null),
  (37, .invokevirtual 69, 0, 0, .null),
  (40, .aload_n 0, 0, 0, .null),
  (41, .iconst 0, 0, 0, .int 0),
  (42, .putfield 49, 5, 6, .long 0),
  (45, .iconst 1, 0, 0, .int 1),
  (46, .ireturn, 0, 0, .null),
  (47, .nop, 0, 0, .null)]
theorem o_DS_refer : xOK y_DS_refer xk_DS r_DS_refer := ⟨xk_DS_ok, by decide +kernel⟩
def y_Pr_hasItem : xMD := (⟨"DataShrinker$Program", "hasItem", "(I)Z"⟩, prog_7_method_4_code, 2, (some .boolean), { frames := 1, cells := 0, slots := 0, locals := 20 })
def r_Pr_hasItem : List xRw := [(0, .iload_n 1, 1, 0, .null),
  (1, .invokestatic 56, 0, 0, .null),
  (4, .ifCond .eq 16, 20, 0, .null),
  (7, .aload_n 0, 0, 0, .null),
  (8, .getfield 9, 0, 4, .null),
  (11, .iload_n 1, 1, 0, .null),
  (12, .iaload, 0, 0, .null),
  (13, .ifCond .le 7, 20, 0, .null),
  (16, .iconst 1, 0, 0, .int 1),
  (17, .goto 4, 21, 0, .null),
  (20, .iconst 0, 0, 0, .int 0),
  (21, .ireturn, 0, 0, .null),
  (22, .nop, 0, 0, .null)]
theorem o_Pr_hasItem : xOK y_Pr_hasItem xk_Pr r_Pr_hasItem := ⟨xk_Pr_ok, by decide +kernel⟩
def y_Pr_tellReference : xMD := (⟨"DataShrinker$Program", "tellReference", "(III)V"⟩, prog_7_method_11_code, 4, none, { frames := 0, cells := 0, slots := 0, locals := 0 })
def r_Pr_tellReference : List xRw := [(0, .iload_n 3, 3, 0, .null),
  (1, .iconst (-1), 0, 0, .int (-1)),
  (2, .if_icmp .ne 22, 24, 0, .null),
  (5, .aload_n 0, 0, 0, .null),
  (6, .getfield 31, 6, 4, .null),
  (9, .iload_n 1, 1, 0, .null),
  (10, .dup2, 0, 0, .null),
  (11, .laload, 0, 0, .null),
  (12, .lconst 1, 0, 0, .long 1),
  (13, .iload_n 2, 2, 0, .null),
  (14, .lshl, 0, 0, .null),
  (15, .ldc2_w 70, 0, 0, .long (-1)),
  (18, .lxor, 0, 0, .null),
  (19, .land, 0, 0, .null),
  (20, .lastore, 0, 0, .null),
  (21, .goto 27, 48, 0, .null),
  (24, .aload_n 0, 0, 0, .null),
  (25, .getfield 31, 6, 4, .null),
  (28, .iload_n 1, 1, 0, .null),
  (29, .dup2, 0, 0, .null),
  (30, .laload, 0, 0, .null),
  (31, .lconst 1, 0, 0, .long 1),
  (32, .iload_n 2, 2, 0, .null),
  (33, .lshl, 0, 0, .null),
  (34, .lor, 0, 0, .null),
  (35, .lastore, 0, 0, .null),
  (36, .aload_n 0, 0, 0, .null),
  (37, .getfield 28, 5, 4, .null),
  (40, .iload_n 1, 1, 0, .null),
  (41, .bipush 64, 0, 0, .int 64),
  (43, .imul, 0, 0, .null),
  (44, .iload_n 2, 2, 0, .null),
  (45, .iadd, 0, 0, .null),
  (46, .iload_n 3, 3, 0, .null),
  (47, .iastore, 0, 0, .null),
  (48, .return_, 0, 0, .null),
  (49, .nop, 0, 0, .null)]
theorem o_Pr_tellReference : xOK y_Pr_tellReference xk_Pr r_Pr_tellReference := ⟨xk_Pr_ok, by decide +kernel⟩
def y_DS_code : xMD := (⟨"DataShrinker", "code", "(IIIII)I"⟩, prog_1_method_5_code, 6, (some .int), { frames := 2, cells := 0, slots := 0, locals := 45 })
def r_DS_code : List xRw := [(0, .iload_n 1, 1, 0, .null),
  (1, .invokestatic 73, 0, 0, .null),
  (4, .ifCond .eq 15, 19, 0, .null),
  (7, .iload_n 2, 2, 0, .null),
  (8, .iload_n 3, 3, 0, .null),
  (9, .iload 4, 4, 0, .null),
  (11, .iload 5, 5, 0, .null),
  (13, .invokestatic 76, 0, 0, .null),
  (16, .ifCond .ne 5, 21, 0, .null),
  (19, .iconst (-1), 0, 0, .int (-1)),
  (20, .ireturn, 0, 0, .null),
  (21, .aload_n 0, 0, 0, .null),
  (22, .getfield 12, 0, 6, .null),
  (25, .getfield 79, 7, 4, .null),
  (28, .iload_n 1, 1, 0, .null),
  (29, .iaload, 0, 0, .null),
  (30, .bipush 40, 0, 0, .int 40),
  (32, .if_icmp .lt 5, 37, 0, .null),
  (35, .iconst (-1), 0, 0, .int (-1)),
  (36, .ireturn, 0, 0, .null),
  (37, .aload_n 0, 0, 0, .null),
  (38, .iconst 0, 0, 0, .int 0),
  (39, .putfield 49, 5, 6, .long 0),
  (42, .aload_n 0, 0, 0, .null),
  (43, .getfield 12, 0, 6, .null),
  (46, .iload_n 1, 1, 0, .null),
  (47, .iload_n 2, 2, 0, .null),
  (48, .iload_n 3, 3, 0, .null),
  (49, .iload 4, 4, 0, .null),
  (51, .iload 5, 5, 0, .null),
  (53, .invokevirtual 83, 0, 0, .null),
  (56, .ireturn, 0, 0, .null),
  (57, .nop, 0, 0, .null)]
theorem o_DS_code : xOK y_DS_code xk_DS r_DS_code := ⟨xk_DS_ok, by decide +kernel⟩
def y_DS_isFunction : xMD := (⟨"DataShrinker", "isFunction", "(I)Z"⟩, prog_1_method_24_code, 1, (some .boolean), { frames := 0, cells := 0, slots := 0, locals := 0 })
def r_DS_isFunction : List xRw := [(0, .iload_n 0, 0, 0, .null),
  (1, .ifCond .lt 13, 14, 0, .null),
  (4, .iload_n 0, 0, 0, .null),
  (5, .bipush 12, 0, 0, .int 12),
  (7, .if_icmp .ge 7, 14, 0, .null),
  (10, .iconst 1, 0, 0, .int 1),
  (11, .goto 4, 15, 0, .null),
  (14, .iconst 0, 0, 0, .int 0),
  (15, .ireturn, 0, 0, .null),
  (16, .nop, 0, 0, .null)]
theorem o_DS_isFunction : xOK y_DS_isFunction xk_DS r_DS_isFunction := ⟨xk_DS_ok, by decide +kernel⟩
def y_Pr_isInstruction : xMD := (⟨"DataShrinker$Program", "isInstruction", "(IIII)Z"⟩, prog_7_method_3_code, 4, (some .boolean), { frames := 1, cells := 0, slots := 0, locals := 22 })
def r_Pr_isInstruction : List xRw := [(0, .iload_n 0, 0, 0, .null),
  (1, .tableswitch 290 0 11 #[63, 91, 63, 121, 148, 175, 196, 224, 245, 224, 263, 121], 0, 0, .null),
  (64, .iload_n 1, 1, 0, .null),
  (65, .invokestatic 64, 0, 0, .null),
  (68, .ifCond .eq 22, 90, 0, .null),
  (71, .iload_n 2, 2, 0, .null),
  (72, .iconst 0, 0, 0, .int 0),
  (73, .sipush 255, 0, 0, .int 255),
  (76, .invokestatic 60, 0, 0, .null),
  (79, .ifCond .eq 11, 90, 0, .null),
  (82, .iload_n 3, 3, 0, .null),
  (83, .ifCond .ne 7, 90, 0, .null),
  (86, .iconst 1, 0, 0, .int 1),
  (87, .goto 4, 91, 0, .null),
  (90, .iconst 0, 0, 0, .int 0),
  (91, .ireturn, 0, 0, .null),
  (92, .iload_n 1, 1, 0, .null),
  (93, .invokestatic 64, 0, 0, .null),
  (96, .ifCond .eq 24, 120, 0, .null),
  (99, .iload_n 2, 2, 0, .null),
  (100, .sipush (-255), 0, 0, .int (-255)),
  (103, .sipush 255, 0, 0, .int 255),
  (106, .invokestatic 60, 0, 0, .null),
  (109, .ifCond .eq 11, 120, 0, .null),
  (112, .iload_n 3, 3, 0, .null),
  (113, .ifCond .ne 7, 120, 0, .null),
  (116, .iconst 1, 0, 0, .int 1),
  (117, .goto 4, 121, 0, .null),
  (120, .iconst 0, 0, 0, .int 0),
  (121, .ireturn, 0, 0, .null),
  (122, .iload_n 1, 1, 0, .null),
  (123, .invokestatic 64, 0, 0, .null),
  (126, .ifCond .eq 21, 147, 0, .null),
  (129, .iload_n 2, 2, 0, .null),
  (130, .invokestatic 56, 0, 0, .null),
  (133, .ifCond .eq 14, 147, 0, .null),
  (136, .iload_n 3, 3, 0, .null),
  (137, .invokestatic 64, 0, 0, .null),
  (140, .ifCond .eq 7, 147, 0, .null),
  (143, .iconst 1, 0, 0, .int 1),
  (144, .goto 4, 148, 0, .null),
  (147, .iconst 0, 0, 0, .int 0),
  (148, .ireturn, 0, 0, .null),
  (149, .iload_n 1, 1, 0, .null),
  (150, .invokestatic 56, 0, 0, .null),
  (153, .ifCond .eq 21, 174, 0, .null),
  (156, .iload_n 2, 2, 0, .null),
  (157, .invokestatic 64, 0, 0, .null),
  (160, .ifCond .eq 14, 174, 0, .null),
  (163, .iload_n 3, 3, 0, .null),
  (164, .invokestatic 64, 0, 0, .null),
  (167, .ifCond .eq 7, 174, 0, .null),
  (170, .iconst 1, 0, 0, .int 1),
  (171, .goto 4, 175, 0, .null),
  (174, .iconst 0, 0, 0, .int 0),
  (175, .ireturn, 0, 0, .null),
  (176, .iload_n 1, 1, 0, .null),
  (177, .invokestatic 67, 0, 0, .null),
  (180, .ifCond .eq 15, 195, 0, .null),
  (183, .iload_n 2, 2, 0, .null),
  (184, .ifCond .ne 11, 195, 0, .null),
  (187, .iload_n 3, 3, 0, .null),
  (188, .ifCond .ne 7, 195, 0, .null),
  (191, .iconst 1, 0, 0, .int 1),
  (192, .goto 4, 196, 0, .null),
  (195, .iconst 0, 0, 0, .int 0),
  (196, .ireturn, 0, 0, .null),
  (197, .iload_n 1, 1, 0, .null),
  (198, .invokestatic 64, 0, 0, .null),
  (201, .ifCond .eq 22, 223, 0, .null),
  (204, .iload_n 2, 2, 0, .null),
  (205, .bipush (-40), 0, 0, .int (-40)),
  (207, .bipush 40, 0, 0, .int 40),
  (209, .invokestatic 60, 0, 0, .null),
  (212, .ifCond .eq 11, 223, 0, .null),
  (215, .iload_n 3, 3, 0, .null),
  (216, .ifCond .ne 7, 223, 0, .null),
  (219, .iconst 1, 0, 0, .int 1),
  (220, .goto 4, 224, 0, .null),
  (223, .iconst 0, 0, 0, .int 0),
  (224, .ireturn, 0, 0, .null),
  (225, .iload_n 1, 1, 0, .null),
  (226, .invokestatic 64, 0, 0, .null),
  (229, .ifCond .eq 15, 244, 0, .null),
  (232, .iload_n 2, 2, 0, .null),
  (233, .ifCond .ne 11, 244, 0, .null),
  (236, .iload_n 3, 3, 0, .null),
  (237, .ifCond .ne 7, 244, 0, .null),
  (240, .iconst 1, 0, 0, .int 1),
  (241, .goto 4, 245, 0, .null),
  (244, .iconst 0, 0, 0, .int 0),
  (245, .ireturn, 0, 0, .null),
  (246, .iload_n 1, 1, 0, .null),
  (247, .ifCond .ne 15, 262, 0, .null),
  (250, .iload_n 2, 2, 0, .null),
  (251, .ifCond .ne 11, 262, 0, .null),
  (254, .iload_n 3, 3, 0, .null),
  (255, .ifCond .ne 7, 262, 0, .null),
  (258, .iconst 1, 0, 0, .int 1),
  (259, .goto 4, 263, 0, .null),
  (262, .iconst 0, 0, 0, .int 0),
  (263, .ireturn, 0, 0, .null),
  (264, .iload_n 1, 1, 0, .null),
  (265, .invokestatic 64, 0, 0, .null),
  (268, .ifCond .eq 21, 289, 0, .null),
  (271, .iload_n 2, 2, 0, .null),
  (272, .invokestatic 56, 0, 0, .null),
  (275, .ifCond .eq 14, 289, 0, .null),
  (278, .iload_n 3, 3, 0, .null),
  (279, .invokestatic 56, 0, 0, .null),
  (282, .ifCond .eq 7, 289, 0, .null),
  (285, .iconst 1, 0, 0, .int 1),
  (286, .goto 4, 290, 0, .null),
  (289, .iconst 0, 0, 0, .int 0),
  (290, .ireturn, 0, 0, .null),
  (291, .iconst 0, 0, 0, .int 0),
  (292, .ireturn, 0, 0, .null),
  (293, .nop, 0, 0, .null)]
theorem o_Pr_isInstruction : xOK y_Pr_isInstruction xk_Pr r_Pr_isInstruction := ⟨xk_Pr_ok, by decide +kernel⟩
def y_DS_isRegister : xMD := (⟨"DataShrinker", "isRegister", "(I)Z"⟩, prog_1_method_25_code, 1, (some .boolean), { frames := 0, cells := 0, slots := 0, locals := 0 })
def r_DS_isRegister : List xRw := [(0, .iload_n 0, 0, 0, .null),
  (1, .ifCond .lt 12, 13, 0, .null),
  (4, .iload_n 0, 0, 0, .null),
  (5, .iconst 4, 0, 0, .int 4),
  (6, .if_icmp .ge 7, 13, 0, .null),
  (9, .iconst 1, 0, 0, .int 1),
  (10, .goto 4, 14, 0, .null),
  (13, .iconst 0, 0, 0, .int 0),
  (14, .ireturn, 0, 0, .null),
  (15, .nop, 0, 0, .null)]
theorem o_DS_isRegister : xOK y_DS_isRegister xk_DS r_DS_isRegister := ⟨xk_DS_ok, by decide +kernel⟩
def y_Pr_addInstruction : xMD := (⟨"DataShrinker$Program", "addInstruction", "(IIIII)I"⟩, prog_7_method_13_code, 7, (some .int), { frames := 0, cells := 0, slots := 0, locals := 0 })
def r_Pr_addInstruction : List xRw := [(0, .iload_n 1, 1, 0, .null),
  (1, .bipush 40, 0, 0, .int 40),
  (3, .imul, 0, 0, .null),
  (4, .aload_n 0, 0, 0, .null),
  (5, .getfield 35, 7, 4, .null),
  (8, .iload_n 1, 1, 0, .null),
  (9, .iaload, 0, 0, .null),
  (10, .iadd, 0, 0, .null),
  (11, .istore 6, 6, 0, .null),
  (13, .aload_n 0, 0, 0, .null),
  (14, .getfield 38, 8, 4, .null),
  (17, .iload 6, 6, 0, .null),
  (19, .iload_n 2, 2, 0, .null),
  (20, .iastore, 0, 0, .null),
  (21, .aload_n 0, 0, 0, .null),
  (22, .getfield 41, 9, 4, .null),
  (25, .iload 6, 6, 0, .null),
  (27, .iload_n 3, 3, 0, .null),
  (28, .iastore, 0, 0, .null),
  (29, .aload_n 0, 0, 0, .null),
  (30, .getfield 44, 10, 4, .null),
  (33, .iload 6, 6, 0, .null),
  (35, .iload 4, 4, 0, .null),
  (37, .iastore, 0, 0, .null),
  (38, .aload_n 0, 0, 0, .null),
  (39, .getfield 47, 11, 4, .null),
  (42, .iload 6, 6, 0, .null),
  (44, .iload 5, 5, 0, .null),
  (46, .iastore, 0, 0, .null),
  (47, .aload_n 0, 0, 0, .null),
  (48, .getfield 35, 7, 4, .null),
  (51, .iload_n 1, 1, 0, .null),
  (52, .dup2, 0, 0, .null),
  (53, .iaload, 0, 0, .null),
  (54, .iconst 1, 0, 0, .int 1),
  (55, .iadd, 0, 0, .null),
  (56, .iastore, 0, 0, .null),
  (57, .aload_n 0, 0, 0, .null),
  (58, .getfield 35, 7, 4, .null),
  (61, .iload_n 1, 1, 0, .null),
  (62, .iaload, 0, 0, .null),
  (63, .ireturn, 0, 0, .null),
  (64, .nop, 0, 0, .null)]
theorem o_Pr_addInstruction : xOK y_Pr_addInstruction xk_Pr r_Pr_addInstruction := ⟨xk_Pr_ok, by decide +kernel⟩
def y_DS_clear : xMD := (⟨"DataShrinker", "clear", "(I)I"⟩, prog_1_method_6_code, 3, (some .int), { frames := 1, cells := 0, slots := 0, locals := 20 })
def r_DS_clear : List xRw := [(0, .iload_n 1, 1, 0, .null),
  (1, .invokestatic 73, 0, 0, .null),
  (4, .ifCond .ne 5, 9, 0, .null),
  (7, .iconst (-1), 0, 0, .int (-1)),
  (8, .ireturn, 0, 0, .null),
  (9, .aload_n 0, 0, 0, .null),
  (10, .getfield 12, 0, 6, .null),
  (13, .getfield 79, 7, 4, .null),
  (16, .iload_n 1, 1, 0, .null),
  (17, .iaload, 0, 0, .null),
  (18, .istore_n 2, 2, 0, .null),
  (19, .aload_n 0, 0, 0, .null),
  (20, .getfield 12, 0, 6, .null),
  (23, .getfield 79, 7, 4, .null),
  (26, .iload_n 1, 1, 0, .null),
  (27, .iconst 0, 0, 0, .int 0),
  (28, .iastore, 0, 0, .null),
  (29, .aload_n 0, 0, 0, .null),
  (30, .iconst 0, 0, 0, .int 0),
  (31, .putfield 49, 5, 6, .long 0),
  (34, .iload_n 2, 2, 0, .null),
  (35, .ireturn, 0, 0, .null),
  (36, .nop, 0, 0, .null)]
theorem o_DS_clear : xOK y_DS_clear xk_DS r_DS_clear := ⟨xk_DS_ok, by decide +kernel⟩
def y_DS_entry : xMD := (⟨"DataShrinker", "entry", "(IZ)Z"⟩, prog_1_method_7_code, 3, (some .boolean), { frames := 1, cells := 0, slots := 0, locals := 20 })
def r_DS_entry : List xRw := [(0, .iload_n 1, 1, 0, .null),
  (1, .invokestatic 73, 0, 0, .null),
  (4, .ifCond .eq 16, 20, 0, .null),
  (7, .aload_n 0, 0, 0, .null),
  (8, .getfield 12, 0, 6, .null),
  (11, .getfield 87, 12, 4, .null),
  (14, .iload_n 1, 1, 0, .null),
  (15, .baload, 0, 0, .null),
  (16, .iload_n 2, 2, 0, .null),
  (17, .if_icmp .ne 5, 22, 0, .null),
  (20, .iconst 0, 0, 0, .int 0),
  (21, .ireturn, 0, 0, .null),
  (22, .aload_n 0, 0, 0, .null),
  (23, .getfield 12, 0, 6, .null),
  (26, .getfield 87, 12, 4, .null),
  (29, .iload_n 1, 1, 0, .null),
  (30, .iload_n 2, 2, 0, .null),
  (31, .bastore, 0, 0, .null),
  (32, .aload_n 0, 0, 0, .null),
  (33, .iconst 0, 0, 0, .int 0),
  (34, .putfield 49, 5, 6, .long 0),
  (37, .iconst 1, 0, 0, .int 1),
  (38, .ireturn, 0, 0, .null),
  (39, .nop, 0, 0, .null)]
theorem o_DS_entry : xOK y_DS_entry xk_DS r_DS_entry := ⟨xk_DS_ok, by decide +kernel⟩
def y_DS_input1 : xMD := (⟨"DataShrinker", "input", "(IJ)I"⟩, prog_1_method_8_code, 4, (some .int), { frames := 2, cells := 0, slots := 0, locals := 46 })
def r_DS_input1 : List xRw := [(0, .iload_n 1, 1, 0, .null),
  (1, .iconst 1, 0, 0, .int 1),
  (2, .bipush 8, 0, 0, .int 8),
  (4, .invokestatic 57, 0, 0, .null),
  (7, .ifCond .eq 18, 25, 0, .null),
  (10, .aload_n 0, 0, 0, .null),
  (11, .getfield 12, 0, 6, .null),
  (14, .getfield 91, 14, 4, .null),
  (17, .iload_n 1, 1, 0, .null),
  (18, .iadd, 0, 0, .null),
  (19, .sipush 200, 0, 0, .int 200),
  (22, .if_icmp .le 5, 27, 0, .null),
  (25, .iconst (-1), 0, 0, .int (-1)),
  (26, .ireturn, 0, 0, .null),
  (27, .aload_n 0, 0, 0, .null),
  (28, .getfield 12, 0, 6, .null),
  (31, .iload_n 1, 1, 0, .null),
  (32, .lload_n 2, 2, 0, .null),
  (33, .invokevirtual 95, 0, 0, .null),
  (36, .ireturn, 0, 0, .null),
  (37, .nop, 0, 0, .null)]
theorem o_DS_input1 : xOK y_DS_input1 xk_DS r_DS_input1 := ⟨xk_DS_ok, by decide +kernel⟩
def y_Pr_addInput : xMD := (⟨"DataShrinker$Program", "addInput", "(IJ)I"⟩, prog_7_method_14_code, 5, (some .int), { frames := 1, cells := 0, slots := 0, locals := 22 })
def r_Pr_addInput : List xRw := [(0, .iconst 0, 0, 0, .int 0),
  (1, .istore 4, 4, 0, .null),
  (3, .iload 4, 4, 0, .null),
  (5, .iload_n 1, 1, 0, .null),
  (6, .if_icmp .ge 27, 33, 0, .null),
  (9, .aload_n 0, 0, 0, .null),
  (10, .getfield 53, 13, 4, .null),
  (13, .aload_n 0, 0, 0, .null),
  (14, .getfield 86, 14, 4, .null),
  (17, .iload 4, 4, 0, .null),
  (19, .iadd, 0, 0, .null),
  (20, .lload_n 2, 2, 0, .null),
  (21, .iload 4, 4, 0, .null),
  (23, .invokestatic 82, 0, 0, .null),
  (26, .iastore, 0, 0, .null),
  (27, .iinc 4 1, 4, 0, .int 1),
  (30, .goto (-27), 3, 0, .null),
  (33, .aload_n 0, 0, 0, .null),
  (34, .dup, 0, 0, .null),
  (35, .getfield 86, 14, 4, .null),
  (38, .iload_n 1, 1, 0, .null),
  (39, .iadd, 0, 0, .null),
  (40, .putfield 86, 14, 4, .int 0),
  (43, .aload_n 0, 0, 0, .null),
  (44, .getfield 86, 14, 4, .null),
  (47, .ireturn, 0, 0, .null),
  (48, .nop, 0, 0, .null)]
theorem o_Pr_addInput : xOK y_Pr_addInput xk_Pr r_Pr_addInput := ⟨xk_Pr_ok, by decide +kernel⟩
def y_DS_input2 : xMD := (⟨"DataShrinker", "input", "()I"⟩, prog_1_method_9_code, 2, (some .int), { frames := 0, cells := 0, slots := 0, locals := 0 })
def r_DS_input2 : List xRw := [(0, .aload_n 0, 0, 0, .null),
  (1, .getfield 12, 0, 6, .null),
  (4, .getfield 91, 14, 4, .null),
  (7, .istore_n 1, 1, 0, .null),
  (8, .aload_n 0, 0, 0, .null),
  (9, .getfield 12, 0, 6, .null),
  (12, .iconst 0, 0, 0, .int 0),
  (13, .putfield 91, 14, 4, .int 0),
  (16, .iload_n 1, 1, 0, .null),
  (17, .ireturn, 0, 0, .null),
  (18, .nop, 0, 0, .null)]
theorem o_DS_input2 : xOK y_DS_input2 xk_DS r_DS_input2 := ⟨xk_DS_ok, by decide +kernel⟩
def y_DS_run : xMD := (⟨"DataShrinker", "run", "(I)I"⟩, prog_1_method_10_code, 2, (some .int), { frames := 6, cells := 0, slots := 0, locals := 137 })
def r_DS_run : List xRw := [(0, .aload_n 0, 0, 0, .null),
  (1, .getfield 12, 0, 6, .null),
  (4, .iload_n 1, 1, 0, .null),
  (5, .invokevirtual 99, 0, 0, .null),
  (8, .ifCond .ne 5, 13, 0, .null),
  (11, .iconst (-1), 0, 0, .int (-1)),
  (12, .ireturn, 0, 0, .null),
  (13, .aload_n 0, 0, 0, .null),
  (14, .getfield 37, 3, 6, .null),
  (17, .invokevirtual 102, 0, 0, .null),
  (20, .aload_n 0, 0, 0, .null),
  (21, .getfield 37, 3, 6, .null),
  (24, .iload_n 1, 1, 0, .null),
  (25, .invokevirtual 105, 0, 0, .null),
  (28, .ireturn, 0, 0, .null),
  (29, .nop, 0, 0, .null)]
theorem o_DS_run : xOK y_DS_run xk_DS r_DS_run := ⟨xk_DS_ok, by decide +kernel⟩
def y_Pr_hasEntry : xMD := (⟨"DataShrinker$Program", "hasEntry", "(I)Z"⟩, prog_7_method_6_code, 2, (some .boolean), { frames := 1, cells := 0, slots := 0, locals := 20 })
def r_Pr_hasEntry : List xRw := [(0, .iload_n 1, 1, 0, .null),
  (1, .invokestatic 67, 0, 0, .null),
  (4, .ifCond .eq 16, 20, 0, .null),
  (7, .aload_n 0, 0, 0, .null),
  (8, .getfield 50, 12, 4, .null),
  (11, .iload_n 1, 1, 0, .null),
  (12, .baload, 0, 0, .null),
  (13, .ifCond .eq 7, 20, 0, .null),
  (16, .iconst 1, 0, 0, .int 1),
  (17, .goto 4, 21, 0, .null),
  (20, .iconst 0, 0, 0, .int 0),
  (21, .ireturn, 0, 0, .null),
  (22, .nop, 0, 0, .null)]
theorem o_Pr_hasEntry : xOK y_Pr_hasEntry xk_Pr r_Pr_hasEntry := ⟨xk_Pr_ok, by decide +kernel⟩
def y_JA_fill1 : xMD := (⟨"java/util/Arrays", "fill", "([II)V"⟩, prog_15_method_103_code, 4, none, { frames := 0, cells := 0, slots := 0, locals := 0 })
def r_JA_fill1 : List xRw := [(0, .iconst 0, 0, 0, .int 0),
  (1, .istore_n 2, 2, 0, .null),
  (2, .aload_n 0, 0, 0, .null),
  (3, .arraylength, 0, 0, .null),
  (4, .istore_n 3, 3, 0, .null),
  (5, .iload_n 2, 2, 0, .null),
  (6, .iload_n 3, 3, 0, .null),
  (7, .if_icmp .ge 13, 20, 0, .null),
  (10, .aload_n 0, 0, 0, .null),
  (11, .iload_n 2, 2, 0, .null),
  (12, .iload_n 1, 1, 0, .null),
  (13, .iastore, 0, 0, .null),
  (14, .iinc 2 1, 2, 0, .int 1),
  (17, .goto (-12), 5, 0, .null),
  (20, .return_, 0, 0, .null),
  (21, .nop, 0, 0, .null)]
theorem o_JA_fill1 : xOK y_JA_fill1 xk_JA r_JA_fill1 := ⟨xk_JA_ok, by decide +kernel⟩
def y_JM_floorMod : xMD := (⟨"java/lang/Math", "floorMod", "(II)I"⟩, prog_13_method_50_code, 3, (some .int), { frames := 0, cells := 0, slots := 0, locals := 0 })
def r_JM_floorMod : List xRw := [(0, .iload_n 0, 0, 0, .null),
  (1, .iload_n 1, 1, 0, .null),
  (2, .irem, 0, 0, .null),
  (3, .istore_n 2, 2, 0, .null),
  (4, .iload_n 0, 0, 0, .null),
  (5, .iload_n 1, 1, 0, .null),
  (6, .ixor, 0, 0, .null),
  (7, .ifCond .ge 11, 18, 0, .null),
  (10, .iload_n 2, 2, 0, .null),
  (11, .ifCond .eq 7, 18, 0, .null),
  (14, .iload_n 2, 2, 0, .null),
  (15, .iload_n 1, 1, 0, .null),
  (16, .iadd, 0, 0, .null),
  (17, .ireturn, 0, 0, .null),
  (18, .iload_n 2, 2, 0, .null),
  (19, .ireturn, 0, 0, .null),
  (20, .nop, 0, 0, .null)]
theorem o_JM_floorMod : xOK y_JM_floorMod xk_JM r_JM_floorMod := ⟨xk_JM_ok, by decide +kernel⟩
def y_DS_asNumber : xMD := (⟨"DataShrinker", "asNumber", "(Z)I"⟩, prog_1_method_26_code, 1, (some .int), { frames := 0, cells := 0, slots := 0, locals := 0 })
def r_DS_asNumber : List xRw := [(0, .iload_n 0, 0, 0, .null),
  (1, .ifCond .eq 7, 8, 0, .null),
  (4, .iconst 1, 0, 0, .int 1),
  (5, .goto 4, 9, 0, .null),
  (8, .iconst 0, 0, 0, .int 0),
  (9, .ireturn, 0, 0, .null),
  (10, .nop, 0, 0, .null)]
theorem o_DS_asNumber : xOK y_DS_asNumber xk_DS r_DS_asNumber := ⟨xk_DS_ok, by decide +kernel⟩
def y_Pr_hasReference : xMD := (⟨"DataShrinker$Program", "hasReference", "(II)Z"⟩, prog_7_method_12_code, 3, (some .boolean), { frames := 0, cells := 0, slots := 0, locals := 0 })
def r_Pr_hasReference : List xRw := [(0, .aload_n 0, 0, 0, .null),
  (1, .getfield 31, 6, 4, .null),
  (4, .iload_n 1, 1, 0, .null),
  (5, .laload, 0, 0, .null),
  (6, .iload_n 2, 2, 0, .null),
  (7, .lushr, 0, 0, .null),
  (8, .lconst 1, 0, 0, .long 1),
  (9, .land, 0, 0, .null),
  (10, .lconst 0, 0, 0, .long 0),
  (11, .lcmp, 0, 0, .null),
  (12, .ifCond .eq 7, 19, 0, .null),
  (15, .iconst 1, 0, 0, .int 1),
  (16, .goto 4, 20, 0, .null),
  (19, .iconst 0, 0, 0, .int 0),
  (20, .ireturn, 0, 0, .null),
  (21, .nop, 0, 0, .null)]
theorem o_Pr_hasReference : xOK y_Pr_hasReference xk_Pr r_Pr_hasReference := ⟨xk_Pr_ok, by decide +kernel⟩
def y_DS_runLaid : xMD := (⟨"DataShrinker", "runLaid", "(I)I"⟩, prog_1_method_11_code, 2, (some .int), { frames := 6, cells := 0, slots := 0, locals := 137 })
def r_DS_runLaid : List xRw := [(0, .aload_n 0, 0, 0, .null),
  (1, .getfield 49, 5, 6, .null),
  (4, .ifCond .eq 14, 18, 0, .null),
  (7, .aload_n 0, 0, 0, .null),
  (8, .getfield 12, 0, 6, .null),
  (11, .iload_n 1, 1, 0, .null),
  (12, .invokevirtual 99, 0, 0, .null),
  (15, .ifCond .ne 5, 20, 0, .null),
  (18, .iconst (-1), 0, 0, .int (-1)),
  (19, .ireturn, 0, 0, .null),
  (20, .aload_n 0, 0, 0, .null),
  (21, .getfield 37, 3, 6, .null),
  (24, .aload_n 0, 0, 0, .null),
  (25, .getfield 30, 2, 6, .null),
  (28, .invokevirtual 109, 0, 0, .null),
  (31, .aload_n 0, 0, 0, .null),
  (32, .getfield 37, 3, 6, .null),
  (35, .iload_n 1, 1, 0, .null),
  (36, .invokevirtual 105, 0, 0, .null),
  (39, .ireturn, 0, 0, .null),
  (40, .nop, 0, 0, .null)]
theorem o_DS_runLaid : xOK y_DS_runLaid xk_DS r_DS_runLaid := ⟨xk_DS_ok, by decide +kernel⟩
def y_DS_ran : xMD := (⟨"DataShrinker", "ran", "(I)I"⟩, prog_1_method_12_code, 2, (some .int), { frames := 1, cells := 0, slots := 0, locals := 21 })
def r_DS_ran : List xRw := [(0, .aload_n 0, 0, 0, .null),
  (1, .getfield 37, 3, 6, .null),
  (4, .iload_n 1, 1, 0, .null),
  (5, .invokevirtual 113, 0, 0, .null),
  (8, .ireturn, 0, 0, .null),
  (9, .nop, 0, 0, .null)]
theorem o_DS_ran : xOK y_DS_ran xk_DS r_DS_ran := ⟨xk_DS_ok, by decide +kernel⟩
def y_DS_out : xMD := (⟨"DataShrinker", "out", "(I)I"⟩, prog_1_method_13_code, 2, (some .int), { frames := 2, cells := 0, slots := 0, locals := 43 })
def r_DS_out : List xRw := [(0, .aload_n 0, 0, 0, .null),
  (1, .getfield 37, 3, 6, .null),
  (4, .iload_n 1, 1, 0, .null),
  (5, .invokevirtual 116, 0, 0, .null),
  (8, .ireturn, 0, 0, .null),
  (9, .nop, 0, 0, .null)]
theorem o_DS_out : xOK y_DS_out xk_DS r_DS_out := ⟨xk_DS_ok, by decide +kernel⟩
def y_DS_shrink : xMD := (⟨"DataShrinker", "shrink", "()I"⟩, prog_1_method_14_code, 1, (some .int), { frames := 7, cells := 0, slots := 0, locals := 164 })
def r_DS_shrink : List xRw := [(0, .aload_n 0, 0, 0, .null),
  (1, .getfield 21, 1, 6, .null),
  (4, .invokevirtual 119, 0, 0, .null),
  (7, .aload_n 0, 0, 0, .null),
  (8, .getfield 30, 2, 6, .null),
  (11, .invokevirtual 121, 0, 0, .null),
  (14, .aload_n 0, 0, 0, .null),
  (15, .iconst 1, 0, 0, .int 1),
  (16, .putfield 122, 4, 6, .long 0),
  (19, .aload_n 0, 0, 0, .null),
  (20, .iconst 1, 0, 0, .int 1),
  (21, .putfield 49, 5, 6, .long 0),
  (24, .aload_n 0, 0, 0, .null),
  (25, .getfield 30, 2, 6, .null),
  (28, .getfield 125, 13, 2, .null),
  (31, .ireturn, 0, 0, .null),
  (32, .nop, 0, 0, .null)]
theorem o_DS_shrink : xOK y_DS_shrink xk_DS r_DS_shrink := ⟨xk_DS_ok, by decide +kernel⟩
def y_Ch_forget : xMD := (⟨"DataShrinker$Chains", "forget", "()V"⟩, prog_3_method_2_code, 1, none, { frames := 1, cells := 0, slots := 0, locals := 24 })
def r_Ch_forget : List xRw := [(0, .aload_n 0, 0, 0, .null),
  (1, .getfield 9, 0, 1, .null),
  (4, .lconst 0, 0, 0, .long 0),
  (5, .invokestatic 19, 0, 0, .null),
  (8, .return_, 0, 0, .null),
  (9, .nop, 0, 0, .null)]
theorem o_Ch_forget : xOK y_Ch_forget xk_Ch r_Ch_forget := ⟨xk_Ch_ok, by decide +kernel⟩
def y_JA_fill2 : xMD := (⟨"java/util/Arrays", "fill", "([JJ)V"⟩, prog_15_method_101_code, 5, none, { frames := 0, cells := 0, slots := 0, locals := 0 })
def r_JA_fill2 : List xRw := [(0, .iconst 0, 0, 0, .int 0),
  (1, .istore_n 3, 3, 0, .null),
  (2, .aload_n 0, 0, 0, .null),
  (3, .arraylength, 0, 0, .null),
  (4, .istore 4, 4, 0, .null),
  (6, .iload_n 3, 3, 0, .null),
  (7, .iload 4, 4, 0, .null),
  (9, .if_icmp .ge 13, 22, 0, .null),
  (12, .aload_n 0, 0, 0, .null),
  (13, .iload_n 3, 3, 0, .null),
  (14, .lload_n 1, 1, 0, .null),
  (15, .lastore, 0, 0, .null),
  (16, .iinc 3 1, 3, 0, .int 1),
  (19, .goto (-13), 6, 0, .null),
  (22, .return_, 0, 0, .null),
  (23, .nop, 0, 0, .null)]
theorem o_JA_fill2 : xOK y_JA_fill2 xk_JA r_JA_fill2 := ⟨xk_JA_ok, by decide +kernel⟩
def y_JA_fill3 : xMD := (⟨"java/util/Arrays", "fill", "([JIIJ)V"⟩, prog_15_method_102_code, 6, none, { frames := 1, cells := 0, slots := 0, locals := 22 })
def r_JA_fill3 : List xRw := [(0, .aload_n 0, 0, 0, .null),
  (1, .arraylength, 0, 0, .null),
  (2, .iload_n 1, 1, 0, .null),
  (3, .iload_n 2, 2, 0, .null),
  (4, .invokestatic 13, 0, 0, .null),
  (7, .iload_n 1, 1, 0, .null),
  (8, .istore 5, 5, 0, .null),
  (10, .iload 5, 5, 0, .null),
  (12, .iload_n 2, 2, 0, .null),
  (13, .if_icmp .ge 14, 27, 0, .null),
  (16, .aload_n 0, 0, 0, .null),
  (17, .iload 5, 5, 0, .null),
  (19, .lload_n 3, 3, 0, .null),
  (20, .lastore, 0, 0, .null),
  (21, .iinc 5 1, 5, 0, .int 1),
  (24, .goto (-14), 10, 0, .null),
  (27, .return_, 0, 0, .null),
  (28, .nop, 0, 0, .null)]
theorem o_JA_fill3 : xOK y_JA_fill3 xk_JA r_JA_fill3 := ⟨xk_JA_ok, by decide +kernel⟩
def y_OS_add : xMD := (⟨"DataShrinker$OctetSet", "add", "([JII)V"⟩, prog_6_method_3_code, 3, none, { frames := 0, cells := 0, slots := 0, locals := 0 })
def r_OS_add : List xRw := [(0, .aload_n 0, 0, 0, .null),
  (1, .iload_n 1, 1, 0, .null),
  (2, .iload_n 2, 2, 0, .null),
  (3, .bipush 64, 0, 0, .int 64),
  (5, .idiv, 0, 0, .null),
  (6, .iadd, 0, 0, .null),
  (7, .dup2, 0, 0, .null),
  (8, .laload, 0, 0, .null),
  (9, .lconst 1, 0, 0, .long 1),
  (10, .iload_n 2, 2, 0, .null),
  (11, .bipush 64, 0, 0, .int 64),
  (13, .irem, 0, 0, .null),
  (14, .lshl, 0, 0, .null),
  (15, .lor, 0, 0, .null),
  (16, .lastore, 0, 0, .null),
  (17, .return_, 0, 0, .null),
  (18, .nop, 0, 0, .null)]
theorem o_OS_add : xOK y_OS_add xk_OS r_OS_add := ⟨xk_OS_ok, by decide +kernel⟩
def y_OS_makeOnly : xMD := (⟨"DataShrinker$OctetSet", "makeOnly", "([JI)V"⟩, prog_6_method_2_code, 2, none, { frames := 1, cells := 0, slots := 0, locals := 24 })
def r_OS_makeOnly : List xRw := [(0, .aload_n 0, 0, 0, .null),
  (1, .lconst 0, 0, 0, .long 0),
  (2, .invokestatic 9, 0, 0, .null),
  (5, .aload_n 0, 0, 0, .null),
  (6, .iconst 0, 0, 0, .int 0),
  (7, .iload_n 1, 1, 0, .null),
  (8, .invokestatic 15, 0, 0, .null),
  (11, .return_, 0, 0, .null),
  (12, .nop, 0, 0, .null)]
theorem o_OS_makeOnly : xOK y_OS_makeOnly xk_OS r_OS_makeOnly := ⟨xk_OS_ok, by decide +kernel⟩
def y_OS_join : xMD := (⟨"DataShrinker$OctetSet", "join", "([JI[JI)Z"⟩, prog_6_method_4_code, 8, (some .boolean), { frames := 0, cells := 0, slots := 0, locals := 0 })
def r_OS_join : List xRw := [(0, .iconst 0, 0, 0, .int 0),
  (1, .istore 4, 4, 0, .null),
  (3, .iconst 0, 0, 0, .int 0),
  (4, .istore 5, 5, 0, .null),
  (6, .iload 5, 5, 0, .null),
  (8, .iconst 4, 0, 0, .int 4),
  (9, .if_icmp .ge 49, 58, 0, .null),
  (12, .aload_n 2, 2, 0, .null),
  (13, .iload_n 3, 3, 0, .null),
  (14, .iload 5, 5, 0, .null),
  (16, .iadd, 0, 0, .null),
  (17, .laload, 0, 0, .null),
  (18, .aload_n 0, 0, 0, .null),
  (19, .iload_n 1, 1, 0, .null),
  (20, .iload 5, 5, 0, .null),
  (22, .iadd, 0, 0, .null),
  (23, .laload, 0, 0, .null),
  (24, .ldc2_w 21, 0, 0, .long (-1)),
  (27, .lxor, 0, 0, .null),
  (28, .land, 0, 0, .null),
  (29, .lstore 6, 6, 0, .null),
  (31, .lload 6, 6, 0, .null),
  (33, .lconst 0, 0, 0, .long 0),
  (34, .lcmp, 0, 0, .null),
  (35, .ifCond .eq 17, 52, 0, .null),
  (38, .aload_n 0, 0, 0, .null),
  (39, .iload_n 1, 1, 0, .null),
  (40, .iload 5, 5, 0, .null),
  (42, .iadd, 0, 0, .null),
  (43, .dup2, 0, 0, .null),
  (44, .laload, 0, 0, .null),
  (45, .lload 6, 6, 0, .null),
  (47, .lor, 0, 0, .null),
  (48, .lastore, 0, 0, .null),
  (49, .iconst 1, 0, 0, .int 1),
  (50, .istore 4, 4, 0, .null),
  (52, .iinc 5 1, 5, 0, .int 1),
  (55, .goto (-49), 6, 0, .null),
  (58, .iload 4, 4, 0, .null),
  (60, .ireturn, 0, 0, .null),
  (61, .nop, 0, 0, .null)]
theorem o_OS_join : xOK y_OS_join xk_OS r_OS_join := ⟨xk_OS_ok, by decide +kernel⟩
def y_JL_numberOfTrailingZeros : xMD := (⟨"java/lang/Long", "numberOfTrailingZeros", "(J)I"⟩, prog_12_method_49_code, 3, (some .int), { frames := 1, cells := 0, slots := 0, locals := 21 })
def r_JL_numberOfTrailingZeros : List xRw := [(0, .lload_n 0, 0, 0, .null),
  (1, .l2i, 0, 0, .null),
  (2, .istore_n 2, 2, 0, .null),
  (3, .iload_n 2, 2, 0, .null),
  (4, .ifCond .ne 17, 21, 0, .null),
  (7, .bipush 32, 0, 0, .int 32),
  (9, .lload_n 0, 0, 0, .null),
  (10, .bipush 32, 0, 0, .int 32),
  (12, .lushr, 0, 0, .null),
  (13, .l2i, 0, 0, .null),
  (14, .invokestatic 311, 0, 0, .null),
  (17, .iadd, 0, 0, .null),
  (18, .goto 7, 25, 0, .null),
  (21, .iload_n 2, 2, 0, .null),
  (22, .invokestatic 311, 0, 0, .null),
  (25, .ireturn, 0, 0, .null),
  (26, .nop, 0, 0, .null)]
theorem o_JL_numberOfTrailingZeros : xOK y_JL_numberOfTrailingZeros xk_JL r_JL_numberOfTrailingZeros := ⟨xk_JL_ok, by decide +kernel⟩
def y_JI_numberOfTrailingZeros : xMD := (⟨"java/lang/Integer", "numberOfTrailingZeros", "(I)I"⟩, prog_11_method_48_code, 2, (some .int), { frames := 0, cells := 0, slots := 0, locals := 0 })
def r_JI_numberOfTrailingZeros : List xRw := [(0, .iload_n 0, 0, 0, .null),
  (1, .iconst (-1), 0, 0, .int (-1)),
  (2, .ixor, 0, 0, .null),
  (3, .iload_n 0, 0, 0, .null),
  (4, .iconst 1, 0, 0, .int 1),
  (5, .isub, 0, 0, .null),
  (6, .iand, 0, 0, .null),
  (7, .istore_n 0, 0, 0, .null),
  (8, .iload_n 0, 0, 0, .null),
  (9, .ifCond .gt 8, 17, 0, .null),
  (12, .iload_n 0, 0, 0, .null),
  (13, .bipush 32, 0, 0, .int 32),
  (15, .iand, 0, 0, .null),
  (16, .ireturn, 0, 0, .null),
  (17, .iconst 1, 0, 0, .int 1),
  (18, .istore_n 1, 1, 0, .null),
  (19, .iload_n 0, 0, 0, .null),
  (20, .ldc_w 264, 0, 0, .int 65536),
  (23, .if_icmp .le 11, 34, 0, .null),
  (26, .iinc 1 16, 1, 0, .int 16),
  (29, .iload_n 0, 0, 0, .null),
  (30, .bipush 16, 0, 0, .int 16),
  (32, .iushr, 0, 0, .null),
  (33, .istore_n 0, 0, 0, .null),
  (34, .iload_n 0, 0, 0, .null),
  (35, .sipush 256, 0, 0, .int 256),
  (38, .if_icmp .le 11, 49, 0, .null),
  (41, .iinc 1 8, 1, 0, .int 8),
  (44, .iload_n 0, 0, 0, .null),
  (45, .bipush 8, 0, 0, .int 8),
  (47, .iushr, 0, 0, .null),
  (48, .istore_n 0, 0, 0, .null),
  (49, .iload_n 0, 0, 0, .null),
  (50, .bipush 16, 0, 0, .int 16),
  (52, .if_icmp .le 10, 62, 0, .null),
  (55, .iinc 1 4, 1, 0, .int 4),
  (58, .iload_n 0, 0, 0, .null),
  (59, .iconst 4, 0, 0, .int 4),
  (60, .iushr, 0, 0, .null),
  (61, .istore_n 0, 0, 0, .null),
  (62, .iload_n 0, 0, 0, .null),
  (63, .iconst 4, 0, 0, .int 4),
  (64, .if_icmp .le 10, 74, 0, .null),
  (67, .iinc 1 2, 1, 0, .int 2),
  (70, .iload_n 0, 0, 0, .null),
  (71, .iconst 2, 0, 0, .int 2),
  (72, .iushr, 0, 0, .null),
  (73, .istore_n 0, 0, 0, .null),
  (74, .iload_n 1, 1, 0, .null),
  (75, .iload_n 0, 0, 0, .null),
  (76, .iconst 1, 0, 0, .int 1),
  (77, .iushr, 0, 0, .null),
  (78, .iadd, 0, 0, .null),
  (79, .ireturn, 0, 0, .null),
  (80, .nop, 0, 0, .null)]
theorem o_JI_numberOfTrailingZeros : xOK y_JI_numberOfTrailingZeros xk_JI r_JI_numberOfTrailingZeros := ⟨xk_JI_ok, by decide +kernel⟩
def y_Pr_placesOf : xMD := (⟨"DataShrinker$Program", "placesOf", "(I)J"⟩, prog_7_method_7_code, 2, (some .long), { frames := 0, cells := 0, slots := 0, locals := 0 })
def r_Pr_placesOf : List xRw := [(0, .aload_n 0, 0, 0, .null),
  (1, .getfield 9, 0, 4, .null),
  (4, .iload_n 1, 1, 0, .null),
  (5, .iaload, 0, 0, .null),
  (6, .ifCond .ne 7, 13, 0, .null),
  (9, .lconst 0, 0, 0, .long 0),
  (10, .goto 16, 26, 0, .null),
  (13, .ldc2_w 70, 0, 0, .long (-1)),
  (16, .bipush 64, 0, 0, .int 64),
  (18, .aload_n 0, 0, 0, .null),
  (19, .getfield 9, 0, 4, .null),
  (22, .iload_n 1, 1, 0, .null),
  (23, .iaload, 0, 0, .null),
  (24, .isub, 0, 0, .null),
  (25, .lushr, 0, 0, .null),
  (26, .lreturn, 0, 0, .null),
  (27, .nop, 0, 0, .null)]
theorem o_Pr_placesOf : xOK y_Pr_placesOf xk_Pr r_Pr_placesOf := ⟨xk_Pr_ok, by decide +kernel⟩
def y_Ch_link : xMD := (⟨"DataShrinker$Chains", "link", "(II)V"⟩, prog_3_method_3_code, 3, none, { frames := 0, cells := 0, slots := 0, locals := 0 })
def r_Ch_link : List xRw := [(0, .aload_n 0, 0, 0, .null),
  (1, .getfield 9, 0, 1, .null),
  (4, .iload_n 1, 1, 0, .null),
  (5, .dup2, 0, 0, .null),
  (6, .laload, 0, 0, .null),
  (7, .lconst 1, 0, 0, .long 1),
  (8, .iload_n 2, 2, 0, .null),
  (9, .lshl, 0, 0, .null),
  (10, .lor, 0, 0, .null),
  (11, .lastore, 0, 0, .null),
  (12, .return_, 0, 0, .null),
  (13, .nop, 0, 0, .null)]
theorem o_Ch_link : xOK y_Ch_link xk_Ch r_Ch_link := ⟨xk_Ch_ok, by decide +kernel⟩
def y_OS_isEmpty : xMD := (⟨"DataShrinker$OctetSet", "isEmpty", "([J)Z"⟩, prog_6_method_9_code, 1, (some .boolean), { frames := 0, cells := 0, slots := 0, locals := 0 })
def r_OS_isEmpty : List xRw := [(0, .aload_n 0, 0, 0, .null),
  (1, .iconst 0, 0, 0, .int 0),
  (2, .laload, 0, 0, .null),
  (3, .aload_n 0, 0, 0, .null),
  (4, .iconst 1, 0, 0, .int 1),
  (5, .laload, 0, 0, .null),
  (6, .lor, 0, 0, .null),
  (7, .aload_n 0, 0, 0, .null),
  (8, .iconst 2, 0, 0, .int 2),
  (9, .laload, 0, 0, .null),
  (10, .lor, 0, 0, .null),
  (11, .aload_n 0, 0, 0, .null),
  (12, .iconst 3, 0, 0, .int 3),
  (13, .laload, 0, 0, .null),
  (14, .lor, 0, 0, .null),
  (15, .lconst 0, 0, 0, .long 0),
  (16, .lcmp, 0, 0, .null),
  (17, .ifCond .ne 7, 24, 0, .null),
  (20, .iconst 1, 0, 0, .int 1),
  (21, .goto 4, 25, 0, .null),
  (24, .iconst 0, 0, 0, .int 0),
  (25, .ireturn, 0, 0, .null),
  (26, .nop, 0, 0, .null)]
theorem o_OS_isEmpty : xOK y_OS_isEmpty xk_OS r_OS_isEmpty := ⟨xk_OS_ok, by decide +kernel⟩
def y_OS_makeSums : xMD := (⟨"DataShrinker$OctetSet", "makeSums", "([J[JII)V"⟩, prog_6_method_5_code, 8, none, { frames := 1, cells := 0, slots := 0, locals := 22 })
def r_OS_makeSums : List xRw := [(0, .iload_n 3, 3, 0, .null),
  (1, .sipush 256, 0, 0, .int 256),
  (4, .invokestatic 23, 0, 0, .null),
  (7, .istore 4, 4, 0, .null),
  (9, .iload 4, 4, 0, .null),
  (11, .bipush 64, 0, 0, .int 64),
  (13, .idiv, 0, 0, .null),
  (14, .istore 5, 5, 0, .null),
  (16, .iload 4, 4, 0, .null),
  (18, .bipush 64, 0, 0, .int 64),
  (20, .irem, 0, 0, .null),
  (21, .istore 6, 6, 0, .null),
  (23, .iconst 0, 0, 0, .int 0),
  (24, .istore 7, 7, 0, .null),
  (26, .iload 7, 7, 0, .null),
  (28, .iconst 4, 0, 0, .int 4),
  (29, .if_icmp .ge 58, 87, 0, .null),
  (32, .aload_n 0, 0, 0, .null),
  (33, .iload 7, 7, 0, .null),
  (35, .aload_n 1, 1, 0, .null),
  (36, .iload_n 2, 2, 0, .null),
  (37, .iload 7, 7, 0, .null),
  (39, .iload 5, 5, 0, .null),
  (41, .isub, 0, 0, .null),
  (42, .iconst 3, 0, 0, .int 3),
  (43, .iand, 0, 0, .null),
  (44, .iadd, 0, 0, .null),
  (45, .laload, 0, 0, .null),
  (46, .iload 6, 6, 0, .null),
  (48, .lshl, 0, 0, .null),
  (49, .lastore, 0, 0, .null),
  (50, .iload 6, 6, 0, .null),
  (52, .ifCond .le 29, 81, 0, .null),
  (55, .aload_n 0, 0, 0, .null),
  (56, .iload 7, 7, 0, .null),
  (58, .dup2, 0, 0, .null),
  (59, .laload, 0, 0, .null),
  (60, .aload_n 1, 1, 0, .null),
  (61, .iload_n 2, 2, 0, .null),
  (62, .iload 7, 7, 0, .null),
  (64, .iload 5, 5, 0, .null),
  (66, .isub, 0, 0, .null),
  (67, .iconst 1, 0, 0, .int 1),
  (68, .isub, 0, 0, .null),
  (69, .iconst 3, 0, 0, .int 3),
  (70, .iand, 0, 0, .null),
  (71, .iadd, 0, 0, .null),
  (72, .laload, 0, 0, .null),
  (73, .bipush 64, 0, 0, .int 64),
  (75, .iload 6, 6, 0, .null),
  (77, .isub, 0, 0, .null),
  (78, .lushr, 0, 0, .null),
  (79, .lor, 0, 0, .null),
  (80, .lastore, 0, 0, .null),
  (81, .iinc 7 1, 7, 0, .int 1),
  (84, .goto (-58), 26, 0, .null),
  (87, .return_, 0, 0, .null),
  (88, .nop, 0, 0, .null)]
theorem o_OS_makeSums : xOK y_OS_makeSums xk_OS r_OS_makeSums := ⟨xk_OS_ok, by decide +kernel⟩
def y_OS_makeMasked : xMD := (⟨"DataShrinker$OctetSet", "makeMasked", "([J[JII)V"⟩, prog_6_method_6_code, 5, none, { frames := 1, cells := 0, slots := 0, locals := 26 })
def r_OS_makeMasked : List xRw := [(0, .aload_n 1, 1, 0, .null),
  (1, .iload_n 2, 2, 0, .null),
  (2, .aload_n 0, 0, 0, .null),
  (3, .iconst 0, 0, 0, .int 0),
  (4, .iconst 4, 0, 0, .int 4),
  (5, .invokestatic 29, 0, 0, .null),
  (8, .iconst 0, 0, 0, .int 0),
  (9, .istore 4, 4, 0, .null),
  (11, .iload 4, 4, 0, .null),
  (13, .getstatic 35, 0, 0, .null),
  (16, .arraylength, 0, 0, .null),
  (17, .if_icmp .ge 24, 41, 0, .null),
  (20, .iload_n 3, 3, 0, .null),
  (21, .iload 4, 4, 0, .null),
  (23, .iushr, 0, 0, .null),
  (24, .iconst 1, 0, 0, .int 1),
  (25, .iand, 0, 0, .null),
  (26, .ifCond .ne 9, 35, 0, .null),
  (29, .aload_n 0, 0, 0, .null),
  (30, .iload 4, 4, 0, .null),
  (32, .invokestatic 39, 0, 0, .null),
  (35, .iinc 4 1, 4, 0, .int 1),
  (38, .goto (-27), 11, 0, .null),
  (41, .iload_n 3, 3, 0, .null),
  (42, .bipush 6, 0, 0, .int 6),
  (44, .iushr, 0, 0, .null),
  (45, .iconst 1, 0, 0, .int 1),
  (46, .iand, 0, 0, .null),
  (47, .ifCond .ne 15, 62, 0, .null),
  (50, .aload_n 0, 0, 0, .null),
  (51, .iconst 1, 0, 0, .int 1),
  (52, .iconst 0, 0, 0, .int 0),
  (53, .invokestatic 43, 0, 0, .null),
  (56, .aload_n 0, 0, 0, .null),
  (57, .iconst 3, 0, 0, .int 3),
  (58, .iconst 2, 0, 0, .int 2),
  (59, .invokestatic 43, 0, 0, .null),
  (62, .iload_n 3, 3, 0, .null),
  (63, .bipush 7, 0, 0, .int 7),
  (65, .iushr, 0, 0, .null),
  (66, .iconst 1, 0, 0, .int 1),
  (67, .iand, 0, 0, .null),
  (68, .ifCond .ne 15, 83, 0, .null),
  (71, .aload_n 0, 0, 0, .null),
  (72, .iconst 2, 0, 0, .int 2),
  (73, .iconst 0, 0, 0, .int 0),
  (74, .invokestatic 43, 0, 0, .null),
  (77, .aload_n 0, 0, 0, .null),
  (78, .iconst 3, 0, 0, .int 3),
  (79, .iconst 1, 0, 0, .int 1),
  (80, .invokestatic 43, 0, 0, .null),
  (83, .return_, 0, 0, .null),
  (84, .nop, 0, 0, .null)]
theorem o_OS_makeMasked : xOK y_OS_makeMasked xk_OS r_OS_makeMasked := ⟨xk_OS_ok, by decide +kernel⟩
def y_OS_foldWords : xMD := (⟨"DataShrinker$OctetSet", "foldWords", "([JI)V"⟩, prog_6_method_7_code, 5, none, { frames := 0, cells := 0, slots := 0, locals := 0 })
def r_OS_foldWords : List xRw := [(0, .iconst 0, 0, 0, .int 0),
  (1, .istore_n 2, 2, 0, .null),
  (2, .iload_n 2, 2, 0, .null),
  (3, .iconst 4, 0, 0, .int 4),
  (4, .if_icmp .ge 41, 45, 0, .null),
  (7, .aload_n 0, 0, 0, .null),
  (8, .iload_n 2, 2, 0, .null),
  (9, .laload, 0, 0, .null),
  (10, .getstatic 35, 0, 0, .null),
  (13, .iload_n 1, 1, 0, .null),
  (14, .laload, 0, 0, .null),
  (15, .land, 0, 0, .null),
  (16, .lstore_n 3, 3, 0, .null),
  (17, .aload_n 0, 0, 0, .null),
  (18, .iload_n 2, 2, 0, .null),
  (19, .aload_n 0, 0, 0, .null),
  (20, .iload_n 2, 2, 0, .null),
  (21, .laload, 0, 0, .null),
  (22, .getstatic 35, 0, 0, .null),
  (25, .iload_n 1, 1, 0, .null),
  (26, .laload, 0, 0, .null),
  (27, .ldc2_w 21, 0, 0, .long (-1)),
  (30, .lxor, 0, 0, .null),
  (31, .land, 0, 0, .null),
  (32, .lload_n 3, 3, 0, .null),
  (33, .iconst 1, 0, 0, .int 1),
  (34, .iload_n 1, 1, 0, .null),
  (35, .ishl, 0, 0, .null),
  (36, .lushr, 0, 0, .null),
  (37, .lor, 0, 0, .null),
  (38, .lastore, 0, 0, .null),
  (39, .iinc 2 1, 2, 0, .int 1),
  (42, .goto (-40), 2, 0, .null),
  (45, .return_, 0, 0, .null),
  (46, .nop, 0, 0, .null)]
theorem o_OS_foldWords : xOK y_OS_foldWords xk_OS r_OS_foldWords := ⟨xk_OS_ok, by decide +kernel⟩
def y_OS_moveWord : xMD := (⟨"DataShrinker$OctetSet", "moveWord", "([JII)V"⟩, prog_6_method_8_code, 3, none, { frames := 0, cells := 0, slots := 0, locals := 0 })
def r_OS_moveWord : List xRw := [(0, .aload_n 0, 0, 0, .null),
  (1, .iload_n 2, 2, 0, .null),
  (2, .dup2, 0, 0, .null),
  (3, .laload, 0, 0, .null),
  (4, .aload_n 0, 0, 0, .null),
  (5, .iload_n 1, 1, 0, .null),
  (6, .laload, 0, 0, .null),
  (7, .lor, 0, 0, .null),
  (8, .lastore, 0, 0, .null),
  (9, .aload_n 0, 0, 0, .null),
  (10, .iload_n 1, 1, 0, .null),
  (11, .lconst 0, 0, 0, .long 0),
  (12, .lastore, 0, 0, .null),
  (13, .return_, 0, 0, .null),
  (14, .nop, 0, 0, .null)]
theorem o_OS_moveWord : xOK y_OS_moveWord xk_OS r_OS_moveWord := ⟨xk_OS_ok, by decide +kernel⟩
def y_Ch_measure : xMD := (⟨"DataShrinker$Chains", "measure", "([Z)V"⟩, prog_3_method_4_code, 7, none, { frames := 1, cells := 0, slots := 0, locals := 26 })
def r_Ch_measure : List xRw := [(0, .aload_n 0, 0, 0, .null),
  (1, .getfield 15, 1, 1, .null),
  (4, .iconst (-1), 0, 0, .int (-1)),
  (5, .invokestatic 25, 0, 0, .null),
  (8, .lconst 0, 0, 0, .long 0),
  (9, .lstore_n 2, 2, 0, .null),
  (10, .iconst 0, 0, 0, .int 0),
  (11, .istore 4, 4, 0, .null),
  (13, .iload 4, 4, 0, .null),
  (15, .bipush 12, 0, 0, .int 12),
  (17, .if_icmp .ge 27, 44, 0, .null),
  (20, .lload_n 2, 2, 0, .null),
  (21, .aload_n 1, 1, 0, .null),
  (22, .iload 4, 4, 0, .null),
  (24, .baload, 0, 0, .null),
  (25, .ifCond .eq 10, 35, 0, .null),
  (28, .lconst 1, 0, 0, .long 1),
  (29, .iload 4, 4, 0, .null),
  (31, .lshl, 0, 0, .null),
  (32, .goto 4, 36, 0, .null),
  (35, .lconst 0, 0, 0, .long 0),
  (36, .lor, 0, 0, .null),
  (37, .lstore_n 2, 2, 0, .null),
  (38, .iinc 4 1, 4, 0, .int 1),
  (41, .goto (-28), 13, 0, .null),
  (44, .lload_n 2, 2, 0, .null),
  (45, .lstore 4, 4, 0, .null),
  (47, .iconst 1, 0, 0, .int 1),
  (48, .istore 6, 6, 0, .null),
  (50, .iload 6, 6, 0, .null),
  (52, .bipush 36, 0, 0, .int 36),
  (54, .if_icmp .gt 36, 90, 0, .null),
  (57, .lload_n 2, 2, 0, .null),
  (58, .lconst 0, 0, 0, .long 0),
  (59, .lcmp, 0, 0, .null),
  (60, .ifCond .eq 30, 90, 0, .null),
  (63, .aload_n 0, 0, 0, .null),
  (64, .lload_n 2, 2, 0, .null),
  (65, .iload 6, 6, 0, .null),
  (67, .invokevirtual 28, 0, 0, .null),
  (70, .lload 4, 4, 0, .null),
  (72, .ldc2_w 32, 0, 0, .long (-1)),
  (75, .lxor, 0, 0, .null),
  (76, .land, 0, 0, .null),
  (77, .lstore_n 2, 2, 0, .null),
  (78, .lload 4, 4, 0, .null),
  (80, .lload_n 2, 2, 0, .null),
  (81, .lor, 0, 0, .null),
  (82, .lstore 4, 4, 0, .null),
  (84, .iinc 6 1, 6, 0, .int 1),
  (87, .goto (-37), 50, 0, .null),
  (90, .return_, 0, 0, .null),
  (91, .nop, 0, 0, .null)]
theorem o_Ch_measure : xOK y_Ch_measure xk_Ch r_Ch_measure := ⟨xk_Ch_ok, by decide +kernel⟩
def y_Ch_stepOn : xMD := (⟨"DataShrinker$Chains", "stepOn", "(JI)J"⟩, prog_3_method_5_code, 7, (some .long), { frames := 0, cells := 0, slots := 0, locals := 0 })
def r_Ch_stepOn : List xRw := [(0, .lconst 0, 0, 0, .long 0),
  (1, .lstore 4, 4, 0, .null),
  (3, .iconst 0, 0, 0, .int 0),
  (4, .istore 6, 6, 0, .null),
  (6, .iload 6, 6, 0, .null),
  (8, .bipush 36, 0, 0, .int 36),
  (10, .if_icmp .ge 40, 50, 0, .null),
  (13, .lload_n 1, 1, 0, .null),
  (14, .iload 6, 6, 0, .null),
  (16, .lushr, 0, 0, .null),
  (17, .lconst 1, 0, 0, .long 1),
  (18, .land, 0, 0, .null),
  (19, .lconst 0, 0, 0, .long 0),
  (20, .lcmp, 0, 0, .null),
  (21, .ifCond .eq 23, 44, 0, .null),
  (24, .aload_n 0, 0, 0, .null),
  (25, .getfield 15, 1, 1, .null),
  (28, .iload 6, 6, 0, .null),
  (30, .iload_n 3, 3, 0, .null),
  (31, .iastore, 0, 0, .null),
  (32, .lload 4, 4, 0, .null),
  (34, .aload_n 0, 0, 0, .null),
  (35, .getfield 9, 0, 1, .null),
  (38, .iload 6, 6, 0, .null),
  (40, .laload, 0, 0, .null),
  (41, .lor, 0, 0, .null),
  (42, .lstore 4, 4, 0, .null),
  (44, .iinc 6 1, 6, 0, .int 1),
  (47, .goto (-41), 6, 0, .null),
  (50, .lload 4, 4, 0, .null),
  (52, .lreturn, 0, 0, .null),
  (53, .nop, 0, 0, .null)]
theorem o_Ch_stepOn : xOK y_Ch_stepOn xk_Ch r_Ch_stepOn := ⟨xk_Ch_ok, by decide +kernel⟩
def y_JM_max : xMD := (⟨"java/lang/Math", "max", "(II)I"⟩, prog_13_method_65_code, 2, (some .int), { frames := 0, cells := 0, slots := 0, locals := 0 })
def r_JM_max : List xRw := [(0, .iload_n 0, 0, 0, .null),
  (1, .iload_n 1, 1, 0, .null),
  (2, .if_icmp .lt 7, 9, 0, .null),
  (5, .iload_n 0, 0, 0, .null),
  (6, .goto 4, 10, 0, .null),
  (9, .iload_n 1, 1, 0, .null),
  (10, .ireturn, 0, 0, .null),
  (11, .nop, 0, 0, .null)]
theorem o_JM_max : xOK y_JM_max xk_JM r_JM_max := ⟨xk_JM_ok, by decide +kernel⟩
def y_BO_arrange : xMD := (⟨"DataShrinker$BlockOrder", "arrange", "([II[I[I)V"⟩, prog_2_method_3_code, 10, none, { frames := 3, cells := 0, slots := 0, locals := 76 })
def r_BO_arrange : List xRw := [(0, .aload_n 1, 1, 0, .null),
  (1, .iconst 0, 0, 0, .int 0),
  (2, .aload_n 0, 0, 0, .null),
  (3, .getfield 11, 0, 0, .null),
  (6, .iconst 0, 0, 0, .int 0),
  (7, .iload_n 2, 2, 0, .null),
  (8, .invokestatic 18, 0, 0, .null),
  (11, .aload_n 0, 0, 0, .null),
  (12, .iload_n 2, 2, 0, .null),
  (13, .aload_n 3, 3, 0, .null),
  (14, .aload 4, 4, 0, .null),
  (16, .invokevirtual 24, 0, 0, .null),
  (19, .iconst 0, 0, 0, .int 0),
  (20, .istore 5, 5, 0, .null),
  (22, .iconst 0, 0, 0, .int 0),
  (23, .istore 6, 6, 0, .null),
  (25, .iconst 0, 0, 0, .int 0),
  (26, .istore 7, 7, 0, .null),
  (28, .iload 7, 7, 0, .null),
  (30, .iload_n 2, 2, 0, .null),
  (31, .if_icmp .ge 67, 98, 0, .null),
  (34, .aload_n 0, 0, 0, .null),
  (35, .iload 5, 5, 0, .null),
  (37, .iload 6, 6, 0, .null),
  (39, .iload_n 2, 2, 0, .null),
  (40, .aload_n 3, 3, 0, .null),
  (41, .aload 4, 4, 0, .null),
  (43, .invokevirtual 28, 0, 0, .null),
  (46, .istore 8, 8, 0, .null),
  (48, .aload_n 0, 0, 0, .null),
  (49, .getfield 11, 0, 0, .null),
  (52, .iload 8, 8, 0, .null),
  (54, .iaload, 0, 0, .null),
  (55, .istore 9, 9, 0, .null),
  (57, .aload_n 1, 1, 0, .null),
  (58, .iload 7, 7, 0, .null),
  (60, .iload 9, 9, 0, .null),
  (62, .iastore, 0, 0, .null),
  (63, .iload 6, 6, 0, .null),
  (65, .iload 6, 6, 0, .null),
  (67, .aload 4, 4, 0, .null),
  (69, .iload 9, 9, 0, .null),
  (71, .iaload, 0, 0, .null),
  (72, .invokestatic 32, 0, 0, .null),
  (75, .aload_n 3, 3, 0, .null),
  (76, .iload 9, 9, 0, .null),
  (78, .iaload, 0, 0, .null),
  (79, .iadd, 0, 0, .null),
  (80, .iadd, 0, 0, .null),
  (81, .istore 6, 6, 0, .null),
  (83, .iload 5, 5, 0, .null),
  (85, .iconst 1, 0, 0, .int 1),
  (86, .iload 8, 8, 0, .null),
  (88, .ishl, 0, 0, .null),
  (89, .ior, 0, 0, .null),
  (90, .istore 5, 5, 0, .null),
  (92, .iinc 7 1, 7, 0, .int 1),
  (95, .goto (-67), 28, 0, .null),
  (98, .return_, 0, 0, .null),
  (99, .nop, 0, 0, .null)]
theorem o_BO_arrange : xOK y_BO_arrange xk_BO r_BO_arrange := ⟨xk_BO_ok, by decide +kernel⟩
def y_BO_measure : xMD := (⟨"DataShrinker$BlockOrder", "measure", "(I[I[I)V"⟩, prog_2_method_4_code, 9, none, { frames := 2, cells := 0, slots := 0, locals := 48 })
def r_BO_measure : List xRw := [(0, .iconst 1, 0, 0, .int 1),
  (1, .iload_n 1, 1, 0, .null),
  (2, .ishl, 0, 0, .null),
  (3, .iconst 1, 0, 0, .int 1),
  (4, .isub, 0, 0, .null),
  (5, .istore 4, 4, 0, .null),
  (7, .iconst 0, 0, 0, .int 0),
  (8, .istore 5, 5, 0, .null),
  (10, .iload 5, 5, 0, .null),
  (12, .bipush 8, 0, 0, .int 8),
  (14, .if_icmp .ge 23, 37, 0, .null),
  (17, .aload_n 0, 0, 0, .null),
  (18, .getfield 15, 1, 0, .null),
  (21, .iload 4, 4, 0, .null),
  (23, .bipush 8, 0, 0, .int 8),
  (25, .imul, 0, 0, .null),
  (26, .iload 5, 5, 0, .null),
  (28, .iadd, 0, 0, .null),
  (29, .iconst 0, 0, 0, .int 0),
  (30, .iastore, 0, 0, .null),
  (31, .iinc 5 1, 5, 0, .int 1),
  (34, .goto (-24), 10, 0, .null),
  (37, .iload 4, 4, 0, .null),
  (39, .iconst 1, 0, 0, .int 1),
  (40, .isub, 0, 0, .null),
  (41, .istore 5, 5, 0, .null),
  (43, .iload 5, 5, 0, .null),
  (45, .ifCond .lt 88, 133, 0, .null),
  (48, .iconst 0, 0, 0, .int 0),
  (49, .istore 6, 6, 0, .null),
  (51, .iload 6, 6, 0, .null),
  (53, .bipush 8, 0, 0, .int 8),
  (55, .if_icmp .ge 72, 127, 0, .null),
  (58, .ldc 36, 0, 0, .int 1000000),
  (60, .istore 7, 7, 0, .null),
  (62, .iconst 0, 0, 0, .int 0),
  (63, .istore 8, 8, 0, .null),
  (65, .iload 8, 8, 0, .null),
  (67, .iload_n 1, 1, 0, .null),
  (68, .if_icmp .ge 38, 106, 0, .null),
  (71, .iload 5, 5, 0, .null),
  (73, .iload 8, 8, 0, .null),
  (75, .iushr, 0, 0, .null),
  (76, .iconst 1, 0, 0, .int 1),
  (77, .iand, 0, 0, .null),
  (78, .ifCond .ne 22, 100, 0, .null),
  (81, .iload 7, 7, 0, .null),
  (83, .aload_n 0, 0, 0, .null),
  (84, .iload 5, 5, 0, .null),
  (86, .iload 6, 6, 0, .null),
  (88, .iload 8, 8, 0, .null),
  (90, .aload_n 2, 2, 0, .null),
  (91, .aload_n 3, 3, 0, .null),
  (92, .invokevirtual 37, 0, 0, .null),
  (95, .invokestatic 40, 0, 0, .null),
  (98, .istore 7, 7, 0, .null),
  (100, .iinc 8 1, 8, 0, .int 1),
  (103, .goto (-38), 65, 0, .null),
  (106, .aload_n 0, 0, 0, .null),
  (107, .getfield 15, 1, 0, .null),
  (110, .iload 5, 5, 0, .null),
  (112, .bipush 8, 0, 0, .int 8),
  (114, .imul, 0, 0, .null),
  (115, .iload 6, 6, 0, .null),
  (117, .iadd, 0, 0, .null),
  (118, .iload 7, 7, 0, .null),
  (120, .iastore, 0, 0, .null),
  (121, .iinc 6 1, 6, 0, .int 1),
  (124, .goto (-73), 51, 0, .null),
  (127, .iinc 5 (-1), 5, 0, .int (-1)),
  (130, .goto (-87), 43, 0, .null),
  (133, .return_, 0, 0, .null),
  (134, .nop, 0, 0, .null)]
theorem o_BO_measure : xOK y_BO_measure xk_BO r_BO_measure := ⟨xk_BO_ok, by decide +kernel⟩
def y_BO_need : xMD := (⟨"DataShrinker$BlockOrder", "need", "(III[I[I)I"⟩, prog_2_method_5_code, 8, (some .int), { frames := 1, cells := 0, slots := 0, locals := 21 })
def r_BO_need : List xRw := [(0, .aload_n 0, 0, 0, .null),
  (1, .getfield 11, 0, 0, .null),
  (4, .iload_n 3, 3, 0, .null),
  (5, .iaload, 0, 0, .null),
  (6, .istore 6, 6, 0, .null),
  (8, .iload_n 2, 2, 0, .null),
  (9, .aload 5, 5, 0, .null),
  (11, .iload 6, 6, 0, .null),
  (13, .iaload, 0, 0, .null),
  (14, .invokestatic 32, 0, 0, .null),
  (17, .aload 4, 4, 0, .null),
  (19, .iload 6, 6, 0, .null),
  (21, .iaload, 0, 0, .null),
  (22, .iadd, 0, 0, .null),
  (23, .istore 7, 7, 0, .null),
  (25, .iload 7, 7, 0, .null),
  (27, .aload_n 0, 0, 0, .null),
  (28, .getfield 15, 1, 0, .null),
  (31, .iload_n 1, 1, 0, .null),
  (32, .iconst 1, 0, 0, .int 1),
  (33, .iload_n 3, 3, 0, .null),
  (34, .ishl, 0, 0, .null),
  (35, .ior, 0, 0, .null),
  (36, .bipush 8, 0, 0, .int 8),
  (38, .imul, 0, 0, .null),
  (39, .iload_n 2, 2, 0, .null),
  (40, .iload 7, 7, 0, .null),
  (42, .iadd, 0, 0, .null),
  (43, .bipush 8, 0, 0, .int 8),
  (45, .irem, 0, 0, .null),
  (46, .iadd, 0, 0, .null),
  (47, .iaload, 0, 0, .null),
  (48, .iadd, 0, 0, .null),
  (49, .ireturn, 0, 0, .null),
  (50, .nop, 0, 0, .null)]
theorem o_BO_need : xOK y_BO_need xk_BO r_BO_need := ⟨xk_BO_ok, by decide +kernel⟩
def y_BO_gap : xMD := (⟨"DataShrinker$BlockOrder", "gap", "(II)I"⟩, prog_2_method_2_code, 2, (some .int), { frames := 0, cells := 0, slots := 0, locals := 0 })
def r_BO_gap : List xRw := [(0, .iload_n 0, 0, 0, .null),
  (1, .ineg, 0, 0, .null),
  (2, .iload_n 1, 1, 0, .null),
  (3, .iconst 1, 0, 0, .int 1),
  (4, .isub, 0, 0, .null),
  (5, .iand, 0, 0, .null),
  (6, .ireturn, 0, 0, .null),
  (7, .nop, 0, 0, .null)]
theorem o_BO_gap : xOK y_BO_gap xk_BO r_BO_gap := ⟨xk_BO_ok, by decide +kernel⟩
def y_BO_choose : xMD := (⟨"DataShrinker$BlockOrder", "choose", "(III[I[I)I"⟩, prog_2_method_6_code, 9, (some .int), { frames := 2, cells := 0, slots := 0, locals := 48 })
def r_BO_choose : List xRw := [(0, .aload_n 0, 0, 0, .null),
  (1, .getfield 15, 1, 0, .null),
  (4, .iload_n 1, 1, 0, .null),
  (5, .bipush 8, 0, 0, .int 8),
  (7, .imul, 0, 0, .null),
  (8, .iload_n 2, 2, 0, .null),
  (9, .bipush 8, 0, 0, .int 8),
  (11, .irem, 0, 0, .null),
  (12, .iadd, 0, 0, .null),
  (13, .iaload, 0, 0, .null),
  (14, .istore 6, 6, 0, .null),
  (16, .iconst 0, 0, 0, .int 0),
  (17, .istore 7, 7, 0, .null),
  (19, .iload 7, 7, 0, .null),
  (21, .iload_n 3, 3, 0, .null),
  (22, .if_icmp .ge 50, 72, 0, .null),
  (25, .iload_n 1, 1, 0, .null),
  (26, .iload 7, 7, 0, .null),
  (28, .iushr, 0, 0, .null),
  (29, .iconst 1, 0, 0, .int 1),
  (30, .iand, 0, 0, .null),
  (31, .ifCond .ne 7, 38, 0, .null),
  (34, .iconst 1, 0, 0, .int 1),
  (35, .goto 4, 39, 0, .null),
  (38, .iconst 0, 0, 0, .int 0),
  (39, .istore 8, 8, 0, .null),
  (41, .iload 8, 8, 0, .null),
  (43, .ifCond .eq 23, 66, 0, .null),
  (46, .aload_n 0, 0, 0, .null),
  (47, .iload_n 1, 1, 0, .null),
  (48, .iload_n 2, 2, 0, .null),
  (49, .iload 7, 7, 0, .null),
  (51, .aload 4, 4, 0, .null),
  (53, .aload 5, 5, 0, .null),
  (55, .invokevirtual 37, 0, 0, .null),
  (58, .iload 6, 6, 0, .null),
  (60, .if_icmp .ne 6, 66, 0, .null),
  (63, .iload 7, 7, 0, .null),
  (65, .ireturn, 0, 0, .null),
  (66, .iinc 7 1, 7, 0, .int 1),
  (69, .goto (-50), 19, 0, .null),
  (72, .iconst 0, 0, 0, .int 0),
  (73, .ireturn, 0, 0, .null),
  (74, .nop, 0, 0, .null)]
theorem o_BO_choose : xOK y_BO_choose xk_BO r_BO_choose := ⟨xk_BO_ok, by decide +kernel⟩
def y_DS_kept : xMD := (⟨"DataShrinker", "kept", "(II)I"⟩, prog_1_method_15_code, 3, (some .int), { frames := 2, cells := 0, slots := 0, locals := 41 })
def r_DS_kept : List xRw := [(0, .aload_n 0, 0, 0, .null),
  (1, .iload_n 1, 1, 0, .null),
  (2, .invokevirtual 128, 0, 0, .null),
  (5, .ifCond .ne 5, 10, 0, .null),
  (8, .iconst (-1), 0, 0, .int (-1)),
  (9, .ireturn, 0, 0, .null),
  (10, .iload_n 2, 2, 0, .null),
  (11, .tableswitch 128 0 6 #[41, 54, 67, 80, 93, 103, 112], 0, 0, .null),
  (52, .aload_n 0, 0, 0, .null),
  (53, .getfield 30, 2, 6, .null),
  (56, .getfield 131, 5, 2, .null),
  (59, .iload_n 1, 1, 0, .null),
  (60, .baload, 0, 0, .null),
  (61, .invokestatic 134, 0, 0, .null),
  (64, .ireturn, 0, 0, .null),
  (65, .aload_n 0, 0, 0, .null),
  (66, .getfield 21, 1, 6, .null),
  (69, .getfield 138, 9, 5, .null),
  (72, .iload_n 1, 1, 0, .null),
  (73, .laload, 0, 0, .null),
  (74, .invokestatic 142, 0, 0, .null),
  (77, .ireturn, 0, 0, .null),
  (78, .aload_n 0, 0, 0, .null),
  (79, .getfield 21, 1, 6, .null),
  (82, .getfield 148, 10, 5, .null),
  (85, .iload_n 1, 1, 0, .null),
  (86, .baload, 0, 0, .null),
  (87, .invokestatic 134, 0, 0, .null),
  (90, .ireturn, 0, 0, .null),
  (91, .aload_n 0, 0, 0, .null),
  (92, .getfield 21, 1, 6, .null),
  (95, .getfield 151, 11, 5, .null),
  (98, .iload_n 1, 1, 0, .null),
  (99, .baload, 0, 0, .null),
  (100, .invokestatic 134, 0, 0, .null),
  (103, .ireturn, 0, 0, .null),
  (104, .aload_n 0, 0, 0, .null),
  (105, .getfield 30, 2, 6, .null),
  (108, .getfield 154, 9, 2, .null),
  (111, .iload_n 1, 1, 0, .null),
  (112, .iaload, 0, 0, .null),
  (113, .ireturn, 0, 0, .null),
  (114, .aload_n 0, 0, 0, .null),
  (115, .getfield 30, 2, 6, .null),
  (118, .iload_n 1, 1, 0, .null),
  (119, .invokevirtual 157, 0, 0, .null),
  (122, .ireturn, 0, 0, .null),
  (123, .aload_n 0, 0, 0, .null),
  (124, .getfield 21, 1, 6, .null),
  (127, .getfield 160, 1, 5, .null),
  (130, .getfield 164, 1, 1, .null),
  (133, .bipush 12, 0, 0, .int 12),
  (135, .iload_n 1, 1, 0, .null),
  (136, .iadd, 0, 0, .null),
  (137, .iaload, 0, 0, .null),
  (138, .ireturn, 0, 0, .null),
  (139, .iconst (-1), 0, 0, .int (-1)),
  (140, .ireturn, 0, 0, .null),
  (141, .nop, 0, 0, .null)]
theorem o_DS_kept : xOK y_DS_kept xk_DS r_DS_kept := ⟨xk_DS_ok, by decide +kernel⟩
def y_DS_hadItem : xMD := (⟨"DataShrinker", "hadItem", "(I)Z"⟩, prog_1_method_21_code, 2, (some .boolean), { frames := 1, cells := 0, slots := 0, locals := 20 })
def r_DS_hadItem : List xRw := [(0, .aload_n 0, 0, 0, .null),
  (1, .getfield 122, 4, 6, .null),
  (4, .ifCond .eq 26, 30, 0, .null),
  (7, .iload_n 1, 1, 0, .null),
  (8, .invokestatic 212, 0, 0, .null),
  (11, .ifCond .eq 19, 30, 0, .null),
  (14, .aload_n 0, 0, 0, .null),
  (15, .getfield 30, 2, 6, .null),
  (18, .getfield 169, 3, 2, .null),
  (21, .iload_n 1, 1, 0, .null),
  (22, .iaload, 0, 0, .null),
  (23, .ifCond .le 7, 30, 0, .null),
  (26, .iconst 1, 0, 0, .int 1),
  (27, .goto 4, 31, 0, .null),
  (30, .iconst 0, 0, 0, .int 0),
  (31, .ireturn, 0, 0, .null),
  (32, .nop, 0, 0, .null)]
theorem o_DS_hadItem : xOK y_DS_hadItem xk_DS r_DS_hadItem := ⟨xk_DS_ok, by decide +kernel⟩
def y_JL_bitCount : xMD := (⟨"java/lang/Long", "bitCount", "(J)I"⟩, prog_12_method_50_code, 2, (some .int), { frames := 0, cells := 0, slots := 0, locals := 0 })
def r_JL_bitCount : List xRw := [(0, .lload_n 0, 0, 0, .null),
  (1, .lload_n 0, 0, 0, .null),
  (2, .iconst 1, 0, 0, .int 1),
  (3, .lushr, 0, 0, .null),
  (4, .ldc2_w 314, 0, 0, .long 6148914691236517205),
  (7, .land, 0, 0, .null),
  (8, .lsub, 0, 0, .null),
  (9, .lstore_n 0, 0, 0, .null),
  (10, .lload_n 0, 0, 0, .null),
  (11, .ldc2_w 316, 0, 0, .long 3689348814741910323),
  (14, .land, 0, 0, .null),
  (15, .lload_n 0, 0, 0, .null),
  (16, .iconst 2, 0, 0, .int 2),
  (17, .lushr, 0, 0, .null),
  (18, .ldc2_w 316, 0, 0, .long 3689348814741910323),
  (21, .land, 0, 0, .null),
  (22, .ladd, 0, 0, .null),
  (23, .lstore_n 0, 0, 0, .null),
  (24, .lload_n 0, 0, 0, .null),
  (25, .lload_n 0, 0, 0, .null),
  (26, .iconst 4, 0, 0, .int 4),
  (27, .lushr, 0, 0, .null),
  (28, .ladd, 0, 0, .null),
  (29, .ldc2_w 318, 0, 0, .long 1085102592571150095),
  (32, .land, 0, 0, .null),
  (33, .lstore_n 0, 0, 0, .null),
  (34, .lload_n 0, 0, 0, .null),
  (35, .lload_n 0, 0, 0, .null),
  (36, .bipush 8, 0, 0, .int 8),
  (38, .lushr, 0, 0, .null),
  (39, .ladd, 0, 0, .null),
  (40, .lstore_n 0, 0, 0, .null),
  (41, .lload_n 0, 0, 0, .null),
  (42, .lload_n 0, 0, 0, .null),
  (43, .bipush 16, 0, 0, .int 16),
  (45, .lushr, 0, 0, .null),
  (46, .ladd, 0, 0, .null),
  (47, .lstore_n 0, 0, 0, .null),
  (48, .lload_n 0, 0, 0, .null),
  (49, .lload_n 0, 0, 0, .null),
  (50, .bipush 32, 0, 0, .int 32),
  (52, .lushr, 0, 0, .null),
  (53, .ladd, 0, 0, .null),
  (54, .lstore_n 0, 0, 0, .null),
  (55, .lload_n 0, 0, 0, .null),
  (56, .l2i, 0, 0, .null),
  (57, .bipush 127, 0, 0, .int 127),
  (59, .iand, 0, 0, .null),
  (60, .ireturn, 0, 0, .null),
  (61, .nop, 0, 0, .null)]
theorem o_JL_bitCount : xOK y_JL_bitCount xk_JL r_JL_bitCount := ⟨xk_JL_ok, by decide +kernel⟩
def y_DS_read : xMD := (⟨"DataShrinker", "read", "(II)I"⟩, prog_1_method_16_code, 3, (some .int), { frames := 2, cells := 0, slots := 0, locals := 41 })
def r_DS_read : List xRw := [(0, .aload_n 0, 0, 0, .null),
  (1, .iload_n 1, 1, 0, .null),
  (2, .invokevirtual 128, 0, 0, .null),
  (5, .ifCond .eq 22, 27, 0, .null),
  (8, .iload_n 2, 2, 0, .null),
  (9, .iconst 0, 0, 0, .int 0),
  (10, .aload_n 0, 0, 0, .null),
  (11, .getfield 30, 2, 6, .null),
  (14, .getfield 169, 3, 2, .null),
  (17, .iload_n 1, 1, 0, .null),
  (18, .iaload, 0, 0, .null),
  (19, .iconst 1, 0, 0, .int 1),
  (20, .isub, 0, 0, .null),
  (21, .invokestatic 57, 0, 0, .null),
  (24, .ifCond .ne 5, 29, 0, .null),
  (27, .iconst (-1), 0, 0, .int (-1)),
  (28, .ireturn, 0, 0, .null),
  (29, .aload_n 0, 0, 0, .null),
  (30, .getfield 21, 1, 6, .null),
  (33, .getfield 138, 9, 5, .null),
  (36, .iload_n 1, 1, 0, .null),
  (37, .laload, 0, 0, .null),
  (38, .iload_n 2, 2, 0, .null),
  (39, .lushr, 0, 0, .null),
  (40, .lconst 1, 0, 0, .long 1),
  (41, .land, 0, 0, .null),
  (42, .lconst 0, 0, 0, .long 0),
  (43, .lcmp, 0, 0, .null),
  (44, .ifCond .eq 7, 51, 0, .null),
  (47, .iconst 1, 0, 0, .int 1),
  (48, .goto 4, 52, 0, .null),
  (51, .iconst 0, 0, 0, .int 0),
  (52, .invokestatic 134, 0, 0, .null),
  (55, .ireturn, 0, 0, .null),
  (56, .nop, 0, 0, .null)]
theorem o_DS_read : xOK y_DS_read xk_DS r_DS_read := ⟨xk_DS_ok, by decide +kernel⟩
def y_DS_function : xMD := (⟨"DataShrinker", "function", "(II)I"⟩, prog_1_method_17_code, 3, (some .int), { frames := 2, cells := 0, slots := 0, locals := 42 })
def r_DS_function : List xRw := [(0, .aload_n 0, 0, 0, .null),
  (1, .getfield 122, 4, 6, .null),
  (4, .ifCond .eq 10, 14, 0, .null),
  (7, .iload_n 1, 1, 0, .null),
  (8, .invokestatic 73, 0, 0, .null),
  (11, .ifCond .ne 5, 16, 0, .null),
  (14, .iconst (-1), 0, 0, .int (-1)),
  (15, .ireturn, 0, 0, .null),
  (16, .iload_n 2, 2, 0, .null),
  (17, .tableswitch 72 0 2 #[27, 50, 59], 0, 0, .null),
  (44, .aload_n 0, 0, 0, .null),
  (45, .getfield 21, 1, 6, .null),
  (48, .getfield 172, 5, 5, .null),
  (51, .iload_n 1, 1, 0, .null),
  (52, .laload, 0, 0, .null),
  (53, .lconst 0, 0, 0, .long 0),
  (54, .lcmp, 0, 0, .null),
  (55, .ifCond .eq 7, 62, 0, .null),
  (58, .iconst 1, 0, 0, .int 1),
  (59, .goto 4, 63, 0, .null),
  (62, .iconst 0, 0, 0, .int 0),
  (63, .invokestatic 134, 0, 0, .null),
  (66, .ireturn, 0, 0, .null),
  (67, .aload_n 0, 0, 0, .null),
  (68, .getfield 21, 1, 6, .null),
  (71, .iload_n 1, 1, 0, .null),
  (72, .invokevirtual 175, 0, 0, .null),
  (75, .ireturn, 0, 0, .null),
  (76, .aload_n 0, 0, 0, .null),
  (77, .getfield 21, 1, 6, .null),
  (80, .getfield 160, 1, 5, .null),
  (83, .getfield 164, 1, 1, .null),
  (86, .iload_n 1, 1, 0, .null),
  (87, .iaload, 0, 0, .null),
  (88, .ireturn, 0, 0, .null),
  (89, .iconst (-1), 0, 0, .int (-1)),
  (90, .ireturn, 0, 0, .null),
  (91, .nop, 0, 0, .null)]
theorem o_DS_function : xOK y_DS_function xk_DS r_DS_function := ⟨xk_DS_ok, by decide +kernel⟩
def y_DS_values : xMD := (⟨"DataShrinker", "values", "(III)I"⟩, prog_1_method_18_code, 4, (some .int), { frames := 3, cells := 0, slots := 0, locals := 67 })
def r_DS_values : List xRw := [(0, .aload_n 0, 0, 0, .null),
  (1, .getfield 122, 4, 6, .null),
  (4, .ifCond .eq 17, 21, 0, .null),
  (7, .iload_n 1, 1, 0, .null),
  (8, .invokestatic 73, 0, 0, .null),
  (11, .ifCond .eq 10, 21, 0, .null),
  (14, .iload_n 3, 3, 0, .null),
  (15, .invokestatic 178, 0, 0, .null),
  (18, .ifCond .ne 5, 23, 0, .null),
  (21, .iconst (-1), 0, 0, .int (-1)),
  (22, .ireturn, 0, 0, .null),
  (23, .iload_n 2, 2, 0, .null),
  (24, .iconst 0, 0, 0, .int 0),
  (25, .aload_n 0, 0, 0, .null),
  (26, .getfield 21, 1, 6, .null),
  (29, .getfield 181, 2, 5, .null),
  (32, .iload_n 1, 1, 0, .null),
  (33, .iaload, 0, 0, .null),
  (34, .iconst 1, 0, 0, .int 1),
  (35, .isub, 0, 0, .null),
  (36, .invokestatic 57, 0, 0, .null),
  (39, .ifCond .ne 5, 44, 0, .null),
  (42, .iconst (-1), 0, 0, .int (-1)),
  (43, .ireturn, 0, 0, .null),
  (44, .aload_n 0, 0, 0, .null),
  (45, .getfield 21, 1, 6, .null),
  (48, .iload_n 1, 1, 0, .null),
  (49, .iload_n 2, 2, 0, .null),
  (50, .iload_n 3, 3, 0, .null),
  (51, .invokevirtual 182, 0, 0, .null),
  (54, .ireturn, 0, 0, .null),
  (55, .nop, 0, 0, .null)]
theorem o_DS_values : xOK y_DS_values xk_DS r_DS_values := ⟨xk_DS_ok, by decide +kernel⟩
def y_OS_count : xMD := (⟨"DataShrinker$OctetSet", "count", "([JI)I"⟩, prog_6_method_10_code, 4, (some .int), { frames := 1, cells := 0, slots := 0, locals := 21 })
def r_OS_count : List xRw := [(0, .iconst 0, 0, 0, .int 0),
  (1, .istore_n 2, 2, 0, .null),
  (2, .iconst 0, 0, 0, .int 0),
  (3, .istore_n 3, 3, 0, .null),
  (4, .iload_n 3, 3, 0, .null),
  (5, .iconst 4, 0, 0, .int 4),
  (6, .if_icmp .ge 20, 26, 0, .null),
  (9, .iload_n 2, 2, 0, .null),
  (10, .aload_n 0, 0, 0, .null),
  (11, .iload_n 1, 1, 0, .null),
  (12, .iload_n 3, 3, 0, .null),
  (13, .iadd, 0, 0, .null),
  (14, .laload, 0, 0, .null),
  (15, .invokestatic 46, 0, 0, .null),
  (18, .iadd, 0, 0, .null),
  (19, .istore_n 2, 2, 0, .null),
  (20, .iinc 3 1, 3, 0, .int 1),
  (23, .goto (-19), 4, 0, .null),
  (26, .iload_n 2, 2, 0, .null),
  (27, .ireturn, 0, 0, .null),
  (28, .nop, 0, 0, .null)]
theorem o_OS_count : xOK y_OS_count xk_OS r_OS_count := ⟨xk_OS_ok, by decide +kernel⟩
def y_DS_octet : xMD := (⟨"DataShrinker", "octet", "(I)I"⟩, prog_1_method_19_code, 2, (some .int), { frames := 1, cells := 0, slots := 0, locals := 22 })
def r_DS_octet : List xRw := [(0, .aload_n 0, 0, 0, .null),
  (1, .getfield 122, 4, 6, .null),
  (4, .ifCond .eq 20, 24, 0, .null),
  (7, .iload_n 1, 1, 0, .null),
  (8, .iconst 0, 0, 0, .int 0),
  (9, .aload_n 0, 0, 0, .null),
  (10, .getfield 30, 2, 6, .null),
  (13, .getfield 125, 13, 2, .null),
  (16, .iconst 1, 0, 0, .int 1),
  (17, .isub, 0, 0, .null),
  (18, .invokestatic 57, 0, 0, .null),
  (21, .ifCond .ne 5, 26, 0, .null),
  (24, .iconst (-1), 0, 0, .int (-1)),
  (25, .ireturn, 0, 0, .null),
  (26, .aload_n 0, 0, 0, .null),
  (27, .getfield 30, 2, 6, .null),
  (30, .getfield 186, 12, 2, .null),
  (33, .iload_n 1, 1, 0, .null),
  (34, .iaload, 0, 0, .null),
  (35, .ireturn, 0, 0, .null),
  (36, .nop, 0, 0, .null)]
theorem o_DS_octet : xOK y_DS_octet xk_DS r_DS_octet := ⟨xk_DS_ok, by decide +kernel⟩
def y_DS_shrunk : xMD := (⟨"DataShrinker", "shrunk", "(I)I"⟩, prog_1_method_20_code, 2, (some .int), { frames := 2, cells := 0, slots := 0, locals := 43 })
def r_DS_shrunk : List xRw := [(0, .aload_n 0, 0, 0, .null),
  (1, .getfield 122, 4, 6, .null),
  (4, .ifCond .ne 5, 9, 0, .null),
  (7, .iconst (-1), 0, 0, .int (-1)),
  (8, .ireturn, 0, 0, .null),
  (9, .iload_n 1, 1, 0, .null),
  (10, .tableswitch 104 0 6 #[42, 50, 58, 66, 74, 85, 96], 0, 0, .null),
  (52, .aload_n 0, 0, 0, .null),
  (53, .getfield 30, 2, 6, .null),
  (56, .invokevirtual 189, 0, 0, .null),
  (59, .ireturn, 0, 0, .null),
  (60, .aload_n 0, 0, 0, .null),
  (61, .getfield 30, 2, 6, .null),
  (64, .invokevirtual 193, 0, 0, .null),
  (67, .ireturn, 0, 0, .null),
  (68, .aload_n 0, 0, 0, .null),
  (69, .getfield 30, 2, 6, .null),
  (72, .invokevirtual 196, 0, 0, .null),
  (75, .ireturn, 0, 0, .null),
  (76, .aload_n 0, 0, 0, .null),
  (77, .getfield 30, 2, 6, .null),
  (80, .getfield 199, 11, 2, .null),
  (83, .ireturn, 0, 0, .null),
  (84, .aload_n 0, 0, 0, .null),
  (85, .getfield 30, 2, 6, .null),
  (88, .getfield 202, 7, 2, .null),
  (91, .invokestatic 205, 0, 0, .null),
  (94, .ireturn, 0, 0, .null),
  (95, .aload_n 0, 0, 0, .null),
  (96, .getfield 30, 2, 6, .null),
  (99, .getfield 209, 8, 2, .null),
  (102, .invokestatic 205, 0, 0, .null),
  (105, .ireturn, 0, 0, .null),
  (106, .aload_n 0, 0, 0, .null),
  (107, .getfield 30, 2, 6, .null),
  (110, .getfield 125, 13, 2, .null),
  (113, .ireturn, 0, 0, .null),
  (114, .iconst (-1), 0, 0, .int (-1)),
  (115, .ireturn, 0, 0, .null),
  (116, .nop, 0, 0, .null)]
theorem o_DS_shrunk : xOK y_DS_shrunk xk_DS r_DS_shrunk := ⟨xk_DS_ok, by decide +kernel⟩
def y_DS_countOthers : xMD := (⟨"DataShrinker", "countOthers", "([I)I"⟩, prog_1_method_27_code, 3, (some .int), { frames := 1, cells := 0, slots := 0, locals := 20 })
def r_DS_countOthers : List xRw := [(0, .iconst 0, 0, 0, .int 0),
  (1, .istore_n 1, 1, 0, .null),
  (2, .iconst 0, 0, 0, .int 0),
  (3, .istore_n 2, 2, 0, .null),
  (4, .iload_n 2, 2, 0, .null),
  (5, .aload_n 0, 0, 0, .null),
  (6, .arraylength, 0, 0, .null),
  (7, .if_icmp .ge 27, 34, 0, .null),
  (10, .iload_n 1, 1, 0, .null),
  (11, .aload_n 0, 0, 0, .null),
  (12, .iload_n 2, 2, 0, .null),
  (13, .iaload, 0, 0, .null),
  (14, .iconst (-1), 0, 0, .int (-1)),
  (15, .if_icmp .eq 7, 22, 0, .null),
  (18, .iconst 1, 0, 0, .int 1),
  (19, .goto 4, 23, 0, .null),
  (22, .iconst 0, 0, 0, .int 0),
  (23, .invokestatic 134, 0, 0, .null),
  (26, .iadd, 0, 0, .null),
  (27, .istore_n 1, 1, 0, .null),
  (28, .iinc 2 1, 2, 0, .int 1),
  (31, .goto (-27), 4, 0, .null),
  (34, .iload_n 1, 1, 0, .null),
  (35, .ireturn, 0, 0, .null),
  (36, .nop, 0, 0, .null)]
theorem o_DS_countOthers : xOK y_DS_countOthers xk_DS r_DS_countOthers := ⟨xk_DS_ok, by decide +kernel⟩
end
section
def y_Re_init : xMD := (⟨"DataShrinker$Reach", "<init>", "(LDataShrinker$Program;)V"⟩, prog_8_method_1_code, 2, none, { frames := 2, cells := 13, slots := 14646, locals := 40 })
def r_Re_init : List xRw := [(0, .aload_n 0, 0, 0, .null),
  (1, .invokespecial 5, 0, 0, .null),
  (4, .aload_n 0, 0, 0, .null),
  (5, .new 11, 0, 0, .null),
  (8, .dup, 0, 0, .null),
  (9, .invokespecial 13, 0, 0, .null),
  (12, .putfield 14, 1, 5, .null),
  (15, .aload_n 0, 0, 0, .null),
  (16, .bipush 12, 0, 0, .int 12),
  (18, .newarray .int, 0, 0, .null),
  (20, .putfield 20, 2, 5, .null),
  (23, .aload_n 0, 0, 0, .null),
  (24, .sipush 7872, 0, 0, .int 7872),
  (27, .newarray .long, 0, 0, .null),
  (29, .putfield 24, 3, 5, .null),
  (32, .aload_n 0, 0, 0, .null),
  (33, .sipush 6144, 0, 0, .int 6144),
  (36, .newarray .long, 0, 0, .null),
  (38, .putfield 28, 4, 5, .null),
  (41, .aload_n 0, 0, 0, .null),
  (42, .bipush 12, 0, 0, .int 12),
  (44, .newarray .long, 0, 0, .null),
  (46, .putfield 31, 5, 5, .null),
  (49, .aload_n 0, 0, 0, .null),
  (50, .bipush 12, 0, 0, .int 12),
  (52, .newarray .long, 0, 0, .null),
  (54, .putfield 34, 6, 5, .null),
  (57, .aload_n 0, 0, 0, .null),
  (58, .sipush 444, 0, 0, .int 444),
  (61, .newarray .long, 0, 0, .null),
  (63, .putfield 37, 7, 5, .null),
  (66, .aload_n 0, 0, 0, .null),
  (67, .iconst 4, 0, 0, .int 4),
  (68, .newarray .long, 0, 0, .null),
  (70, .putfield 40, 8, 5, .null),
  (73, .aload_n 0, 0, 0, .null),
  (74, .bipush 24, 0, 0, .int 24),
  (76, .newarray .long, 0, 0, .null),
  (78, .putfield 43, 9, 5, .null),
  (81, .aload_n 0, 0, 0, .null),
  (82, .bipush 24, 0, 0, .int 24),
  (84, .newarray .boolean, 0, 0, .null),
  (86, .putfield 46, 10, 5, .null),
  (89, .aload_n 0, 0, 0, .null),
  (90, .bipush 24, 0, 0, .int 24),
  (92, .newarray .boolean, 0, 0, .null),
  (94, .putfield 50, 11, 5, .null),
  (97, .aload_n 0, 0, 0, .null),
  (98, .aload_n 1, 1, 0, .null),
  (99, .putfield 53, 0, 5, .null),
  (102, .return_, 0, 0, .null),
  (103, .nop, 0, 0, .null)]
theorem o_Re_init : xOK y_Re_init xk_Re r_Re_init := ⟨xk_Re_ok, by decide +kernel⟩
def y_La_init : xMD := (⟨"DataShrinker$Layout", "<init>", "(LDataShrinker$Program;LDataShrinker$Reach;)V"⟩, prog_4_method_1_code, 3, none, { frames := 2, cells := 12, slots := 2953, locals := 40 })
def r_La_init : List xRw := [(0, .aload_n 0, 0, 0, .null),
  (1, .invokespecial 3, 0, 0, .null),
  (4, .aload_n 0, 0, 0, .null),
  (5, .new 9, 0, 0, .null),
  (8, .dup, 0, 0, .null),
  (9, .invokespecial 11, 0, 0, .null),
  (12, .putfield 12, 2, 2, .null),
  (15, .aload_n 0, 0, 0, .null),
  (16, .bipush 24, 0, 0, .int 24),
  (18, .newarray .int, 0, 0, .null),
  (20, .putfield 18, 3, 2, .null),
  (23, .aload_n 0, 0, 0, .null),
  (24, .bipush 24, 0, 0, .int 24),
  (26, .newarray .int, 0, 0, .null),
  (28, .putfield 22, 4, 2, .null),
  (31, .aload_n 0, 0, 0, .null),
  (32, .bipush 24, 0, 0, .int 24),
  (34, .newarray .boolean, 0, 0, .null),
  (36, .putfield 25, 5, 2, .null),
  (39, .aload_n 0, 0, 0, .null),
  (40, .bipush 24, 0, 0, .int 24),
  (42, .newarray .boolean, 0, 0, .null),
  (44, .putfield 29, 6, 2, .null),
  (47, .aload_n 0, 0, 0, .null),
  (48, .bipush 24, 0, 0, .int 24),
  (50, .newarray .int, 0, 0, .null),
  (52, .putfield 32, 7, 2, .null),
  (55, .aload_n 0, 0, 0, .null),
  (56, .bipush 24, 0, 0, .int 24),
  (58, .newarray .int, 0, 0, .null),
  (60, .putfield 35, 8, 2, .null),
  (63, .aload_n 0, 0, 0, .null),
  (64, .bipush 24, 0, 0, .int 24),
  (66, .newarray .int, 0, 0, .null),
  (68, .putfield 38, 9, 2, .null),
  (71, .aload_n 0, 0, 0, .null),
  (72, .bipush 24, 0, 0, .int 24),
  (74, .newarray .int, 0, 0, .null),
  (76, .putfield 41, 10, 2, .null),
  (79, .aload_n 0, 0, 0, .null),
  (80, .sipush 1728, 0, 0, .int 1728),
  (83, .newarray .int, 0, 0, .null),
  (85, .putfield 44, 12, 2, .null),
  (88, .aload_n 0, 0, 0, .null),
  (89, .aload_n 1, 1, 0, .null),
  (90, .putfield 47, 0, 2, .null),
  (93, .aload_n 0, 0, 0, .null),
  (94, .aload_n 2, 2, 0, .null),
  (95, .putfield 51, 1, 2, .null),
  (98, .return_, 0, 0, .null),
  (99, .nop, 0, 0, .null)]
theorem o_La_init : xOK y_La_init xk_La r_La_init := ⟨xk_La_ok, by decide +kernel⟩
def y_Ma_init : xMD := (⟨"DataShrinker$Machine", "<init>", "(LDataShrinker$Program;)V"⟩, prog_5_method_1_code, 2, none, { frames := 1, cells := 6, slots := 1888, locals := 20 })
def r_Ma_init : List xRw := [(0, .aload_n 0, 0, 0, .null),
  (1, .invokespecial 3, 0, 0, .null),
  (4, .aload_n 0, 0, 0, .null),
  (5, .sipush 1728, 0, 0, .int 1728),
  (8, .newarray .int, 0, 0, .null),
  (10, .putfield 9, 1, 3, .null),
  (13, .aload_n 0, 0, 0, .null),
  (14, .bipush 24, 0, 0, .int 24),
  (16, .newarray .int, 0, 0, .null),
  (18, .putfield 15, 2, 3, .null),
  (21, .aload_n 0, 0, 0, .null),
  (22, .iconst 4, 0, 0, .int 4),
  (23, .newarray .int, 0, 0, .null),
  (25, .putfield 18, 3, 3, .null),
  (28, .aload_n 0, 0, 0, .null),
  (29, .bipush 16, 0, 0, .int 16),
  (31, .newarray .int, 0, 0, .null),
  (33, .putfield 21, 4, 3, .null),
  (36, .aload_n 0, 0, 0, .null),
  (37, .bipush 16, 0, 0, .int 16),
  (39, .newarray .int, 0, 0, .null),
  (41, .putfield 24, 5, 3, .null),
  (44, .aload_n 0, 0, 0, .null),
  (45, .bipush 100, 0, 0, .int 100),
  (47, .newarray .int, 0, 0, .null),
  (49, .putfield 27, 6, 3, .null),
  (52, .aload_n 0, 0, 0, .null),
  (53, .aload_n 1, 1, 0, .null),
  (54, .putfield 30, 0, 3, .null),
  (57, .return_, 0, 0, .null),
  (58, .nop, 0, 0, .null)]
theorem o_Ma_init : xOK y_Ma_init xk_Ma r_Ma_init := ⟨xk_Ma_ok, by decide +kernel⟩
def y_Ma_takeAsTold : xMD := (⟨"DataShrinker$Machine", "takeAsTold", "()V"⟩, prog_5_method_2_code, 2, none, { frames := 1, cells := 0, slots := 0, locals := 26 })
def r_Ma_takeAsTold : List xRw := [(0, .iconst 0, 0, 0, .int 0),
  (1, .istore_n 1, 1, 0, .null),
  (2, .iload_n 1, 1, 0, .null),
  (3, .bipush 24, 0, 0, .int 24),
  (5, .if_icmp .ge 19, 24, 0, .null),
  (8, .aload_n 0, 0, 0, .null),
  (9, .getfield 15, 2, 3, .null),
  (12, .iload_n 1, 1, 0, .null),
  (13, .iload_n 1, 1, 0, .null),
  (14, .bipush 64, 0, 0, .int 64),
  (16, .imul, 0, 0, .null),
  (17, .iastore, 0, 0, .null),
  (18, .iinc 1 1, 1, 0, .int 1),
  (21, .goto (-19), 2, 0, .null),
  (24, .aload_n 0, 0, 0, .null),
  (25, .getfield 30, 0, 3, .null),
  (28, .getfield 34, 4, 4, .null),
  (31, .iconst 0, 0, 0, .int 0),
  (32, .aload_n 0, 0, 0, .null),
  (33, .getfield 9, 1, 3, .null),
  (36, .iconst 0, 0, 0, .int 0),
  (37, .sipush 1536, 0, 0, .int 1536),
  (40, .invokestatic 39, 0, 0, .null),
  (43, .return_, 0, 0, .null),
  (44, .nop, 0, 0, .null)]
theorem o_Ma_takeAsTold : xOK y_Ma_takeAsTold xk_Ma r_Ma_takeAsTold := ⟨xk_Ma_ok, by decide +kernel⟩
def y_Ma_work : xMD := (⟨"DataShrinker$Machine", "work", "(I)I"⟩, prog_5_method_6_code, 4, (some .int), { frames := 5, cells := 0, slots := 0, locals := 114 })
def r_Ma_work : List xRw := [(0, .aload_n 0, 0, 0, .null),
  (1, .iload_n 1, 1, 0, .null),
  (2, .invokevirtual 78, 0, 0, .null),
  (5, .iconst 0, 0, 0, .int 0),
  (6, .istore_n 2, 2, 0, .null),
  (7, .iload_n 2, 2, 0, .null),
  (8, .ldc 82, 0, 0, .int 1000000),
  (10, .if_icmp .ge 101, 111, 0, .null),
  (13, .aload_n 0, 0, 0, .null),
  (14, .getfield 65, 10, 3, .null),
  (17, .aload_n 0, 0, 0, .null),
  (18, .getfield 30, 0, 3, .null),
  (21, .getfield 83, 7, 4, .null),
  (24, .aload_n 0, 0, 0, .null),
  (25, .getfield 62, 9, 3, .null),
  (28, .iaload, 0, 0, .null),
  (29, .if_icmp .lt 30, 59, 0, .null),
  (32, .aload_n 0, 0, 0, .null),
  (33, .getfield 86, 8, 3, .null),
  (36, .iconst 1, 0, 0, .int 1),
  (37, .if_icmp .ne 15, 52, 0, .null),
  (40, .aload_n 0, 0, 0, .null),
  (41, .iconst (-1), 0, 0, .int (-1)),
  (42, .putfield 62, 9, 3, .int 0),
  (45, .aload_n 0, 0, 0, .null),
  (46, .iconst (-1), 0, 0, .int (-1)),
  (47, .putfield 65, 10, 3, .int 0),
  (50, .iconst 0, 0, 0, .int 0),
  (51, .ireturn, 0, 0, .null),
  (52, .aload_n 0, 0, 0, .null),
  (53, .invokevirtual 89, 0, 0, .null),
  (56, .goto 49, 105, 0, .null),
  (59, .aload_n 0, 0, 0, .null),
  (60, .getfield 59, 13, 3, .null),
  (63, .sipush 2000, 0, 0, .int 2000),
  (66, .if_icmp .ne 5, 71, 0, .null),
  (69, .iconst 2, 0, 0, .int 2),
  (70, .ireturn, 0, 0, .null),
  (71, .aload_n 0, 0, 0, .null),
  (72, .aload_n 0, 0, 0, .null),
  (73, .getfield 62, 9, 3, .null),
  (76, .bipush 40, 0, 0, .int 40),
  (78, .imul, 0, 0, .null),
  (79, .aload_n 0, 0, 0, .null),
  (80, .getfield 65, 10, 3, .null),
  (83, .iadd, 0, 0, .null),
  (84, .invokevirtual 92, 0, 0, .null),
  (87, .istore_n 3, 3, 0, .null),
  (88, .iload_n 3, 3, 0, .null),
  (89, .iconst (-1), 0, 0, .int (-1)),
  (90, .if_icmp .eq 5, 95, 0, .null),
  (93, .iload_n 3, 3, 0, .null),
  (94, .ireturn, 0, 0, .null),
  (95, .aload_n 0, 0, 0, .null),
  (96, .dup, 0, 0, .null),
  (97, .getfield 59, 13, 3, .null),
  (100, .iconst 1, 0, 0, .int 1),
  (101, .iadd, 0, 0, .null),
  (102, .putfield 59, 13, 3, .int 0),
  (105, .iinc 2 1, 2, 0, .int 1),
  (108, .goto (-101), 7, 0, .null),
  (111, .iconst 2, 0, 0, .int 2),
  (112, .ireturn, 0, 0, .null),
  (113, .nop, 0, 0, .null)]
theorem o_Ma_work : xOK y_Ma_work xk_Ma r_Ma_work := ⟨xk_Ma_ok, by decide +kernel⟩
def y_Ma_begin : xMD := (⟨"DataShrinker$Machine", "begin", "(I)V"⟩, prog_5_method_7_code, 2, none, { frames := 1, cells := 0, slots := 0, locals := 23 })
def r_Ma_begin : List xRw := [(0, .aload_n 0, 0, 0, .null),
  (1, .getfield 18, 3, 3, .null),
  (4, .iconst 0, 0, 0, .int 0),
  (5, .invokestatic 96, 0, 0, .null),
  (8, .aload_n 0, 0, 0, .null),
  (9, .iconst 1, 0, 0, .int 1),
  (10, .putfield 51, 7, 3, .long 0),
  (13, .aload_n 0, 0, 0, .null),
  (14, .iconst 1, 0, 0, .int 1),
  (15, .putfield 86, 8, 3, .int 0),
  (18, .aload_n 0, 0, 0, .null),
  (19, .iload_n 1, 1, 0, .null),
  (20, .putfield 62, 9, 3, .int 0),
  (23, .aload_n 0, 0, 0, .null),
  (24, .iconst 0, 0, 0, .int 0),
  (25, .putfield 65, 10, 3, .int 0),
  (28, .aload_n 0, 0, 0, .null),
  (29, .iconst 0, 0, 0, .int 0),
  (30, .putfield 102, 11, 3, .int 0),
  (33, .aload_n 0, 0, 0, .null),
  (34, .iconst 0, 0, 0, .int 0),
  (35, .putfield 55, 12, 3, .int 0),
  (38, .aload_n 0, 0, 0, .null),
  (39, .iconst 0, 0, 0, .int 0),
  (40, .putfield 59, 13, 3, .int 0),
  (43, .return_, 0, 0, .null),
  (44, .nop, 0, 0, .null)]
theorem o_Ma_begin : xOK y_Ma_begin xk_Ma r_Ma_begin := ⟨xk_Ma_ok, by decide +kernel⟩
def y_Ma_leave : xMD := (⟨"DataShrinker$Machine", "leave", "()V"⟩, prog_5_method_8_code, 1, none, { frames := 0, cells := 0, slots := 0, locals := 0 })
def r_Ma_leave : List xRw := [(0, .aload_n 0, 0, 0, .null),
  (1, .dup, 0, 0, .null),
  (2, .getfield 86, 8, 3, .null),
  (5, .iconst 1, 0, 0, .int 1),
  (6, .isub, 0, 0, .null),
  (7, .putfield 86, 8, 3, .int 0),
  (10, .aload_n 0, 0, 0, .null),
  (11, .aload_n 0, 0, 0, .null),
  (12, .getfield 21, 4, 3, .null),
  (15, .aload_n 0, 0, 0, .null),
  (16, .getfield 86, 8, 3, .null),
  (19, .iaload, 0, 0, .null),
  (20, .putfield 62, 9, 3, .int 0),
  (23, .aload_n 0, 0, 0, .null),
  (24, .aload_n 0, 0, 0, .null),
  (25, .getfield 24, 5, 3, .null),
  (28, .aload_n 0, 0, 0, .null),
  (29, .getfield 86, 8, 3, .null),
  (32, .iaload, 0, 0, .null),
  (33, .putfield 65, 10, 3, .int 0),
  (36, .return_, 0, 0, .null),
  (37, .nop, 0, 0, .null)]
theorem o_Ma_leave : xOK y_Ma_leave xk_Ma r_Ma_leave := ⟨xk_Ma_ok, by decide +kernel⟩
def y_Ma_carryOut : xMD := (⟨"DataShrinker$Machine", "carryOut", "(I)I"⟩, prog_5_method_9_code, 5, (some .int), { frames := 4, cells := 0, slots := 0, locals := 90 })
def r_Ma_carryOut : List xRw := [(0, .aload_n 0, 0, 0, .null),
  (1, .getfield 30, 0, 3, .null),
  (4, .getfield 105, 9, 4, .null),
  (7, .iload_n 1, 1, 0, .null),
  (8, .iaload, 0, 0, .null),
  (9, .istore_n 2, 2, 0, .null),
  (10, .aload_n 0, 0, 0, .null),
  (11, .getfield 30, 0, 3, .null),
  (14, .getfield 108, 10, 4, .null),
  (17, .iload_n 1, 1, 0, .null),
  (18, .iaload, 0, 0, .null),
  (19, .istore_n 3, 3, 0, .null),
  (20, .aload_n 0, 0, 0, .null),
  (21, .getfield 30, 0, 3, .null),
  (24, .getfield 111, 11, 4, .null),
  (27, .iload_n 1, 1, 0, .null),
  (28, .iaload, 0, 0, .null),
  (29, .istore 4, 4, 0, .null),
  (31, .aload_n 0, 0, 0, .null),
  (32, .getfield 30, 0, 3, .null),
  (35, .getfield 114, 8, 4, .null),
  (38, .iload_n 1, 1, 0, .null),
  (39, .iaload, 0, 0, .null),
  (40, .tableswitch 225 0 10 #[60, 67, 87, 101, 115, 134, 140, 171, 182, 199, 209], 0, 0, .null),
  (100, .aload_n 0, 0, 0, .null),
  (101, .iload_n 2, 2, 0, .null),
  (102, .iload_n 3, 3, 0, .null),
  (103, .invokevirtual 117, 0, 0, .null),
  (106, .ireturn, 0, 0, .null),
  (107, .aload_n 0, 0, 0, .null),
  (108, .iload_n 2, 2, 0, .null),
  (109, .aload_n 0, 0, 0, .null),
  (110, .getfield 18, 3, 3, .null),
  (113, .iload_n 2, 2, 0, .null),
  (114, .iaload, 0, 0, .null),
  (115, .iload_n 3, 3, 0, .null),
  (116, .iadd, 0, 0, .null),
  (117, .sipush 256, 0, 0, .int 256),
  (120, .invokestatic 120, 0, 0, .null),
  (123, .invokevirtual 117, 0, 0, .null),
  (126, .ireturn, 0, 0, .null),
  (127, .aload_n 0, 0, 0, .null),
  (128, .iload_n 2, 2, 0, .null),
  (129, .aload_n 0, 0, 0, .null),
  (130, .getfield 18, 3, 3, .null),
  (133, .iload_n 2, 2, 0, .null),
  (134, .iaload, 0, 0, .null),
  (135, .iload_n 3, 3, 0, .null),
  (136, .iand, 0, 0, .null),
  (137, .invokevirtual 117, 0, 0, .null),
  (140, .ireturn, 0, 0, .null),
  (141, .aload_n 0, 0, 0, .null),
  (142, .iload_n 2, 2, 0, .null),
  (143, .iload_n 3, 3, 0, .null),
  (144, .aload_n 0, 0, 0, .null),
  (145, .getfield 18, 3, 3, .null),
  (148, .iload 4, 4, 0, .null),
  (150, .iaload, 0, 0, .null),
  (151, .invokevirtual 123, 0, 0, .null),
  (154, .ireturn, 0, 0, .null),
  (155, .aload_n 0, 0, 0, .null),
  (156, .iload_n 2, 2, 0, .null),
  (157, .aload_n 0, 0, 0, .null),
  (158, .getfield 18, 3, 3, .null),
  (161, .iload_n 3, 3, 0, .null),
  (162, .iaload, 0, 0, .null),
  (163, .aload_n 0, 0, 0, .null),
  (164, .getfield 18, 3, 3, .null),
  (167, .iload 4, 4, 0, .null),
  (169, .iaload, 0, 0, .null),
  (170, .invokevirtual 127, 0, 0, .null),
  (173, .ireturn, 0, 0, .null),
  (174, .aload_n 0, 0, 0, .null),
  (175, .iload_n 2, 2, 0, .null),
  (176, .invokevirtual 130, 0, 0, .null),
  (179, .ireturn, 0, 0, .null),
  (180, .aload_n 0, 0, 0, .null),
  (181, .aload_n 0, 0, 0, .null),
  (182, .getfield 18, 3, 3, .null),
  (185, .iload_n 2, 2, 0, .null),
  (186, .iaload, 0, 0, .null),
  (187, .ifCond .ne 14, 201, 0, .null),
  (190, .aload_n 0, 0, 0, .null),
  (191, .getfield 65, 10, 3, .null),
  (194, .iload_n 3, 3, 0, .null),
  (195, .iadd, 0, 0, .null),
  (196, .iconst 1, 0, 0, .int 1),
  (197, .iadd, 0, 0, .null),
  (198, .goto 9, 207, 0, .null),
  (201, .aload_n 0, 0, 0, .null),
  (202, .getfield 65, 10, 3, .null),
  (205, .iconst 1, 0, 0, .int 1),
  (206, .iadd, 0, 0, .null),
  (207, .invokevirtual 133, 0, 0, .null),
  (210, .ireturn, 0, 0, .null),
  (211, .aload_n 0, 0, 0, .null),
  (212, .aload_n 0, 0, 0, .null),
  (213, .getfield 18, 3, 3, .null),
  (216, .iload_n 2, 2, 0, .null),
  (217, .iaload, 0, 0, .null),
  (218, .invokevirtual 136, 0, 0, .null),
  (221, .ireturn, 0, 0, .null),
  (222, .aload_n 0, 0, 0, .null),
  (223, .aload_n 0, 0, 0, .null),
  (224, .getfield 30, 0, 3, .null),
  (227, .getfield 83, 7, 4, .null),
  (230, .aload_n 0, 0, 0, .null),
  (231, .getfield 62, 9, 3, .null),
  (234, .iaload, 0, 0, .null),
  (235, .invokevirtual 133, 0, 0, .null),
  (238, .ireturn, 0, 0, .null),
  (239, .aload_n 0, 0, 0, .null),
  (240, .iload_n 2, 2, 0, .null),
  (241, .aload_n 0, 0, 0, .null),
  (242, .invokevirtual 139, 0, 0, .null),
  (245, .invokevirtual 117, 0, 0, .null),
  (248, .ireturn, 0, 0, .null),
  (249, .aload_n 0, 0, 0, .null),
  (250, .iload_n 2, 2, 0, .null),
  (251, .aload_n 0, 0, 0, .null),
  (252, .iload_n 3, 3, 0, .null),
  (253, .iload 4, 4, 0, .null),
  (255, .invokevirtual 143, 0, 0, .null),
  (258, .invokestatic 147, 0, 0, .null),
  (261, .invokevirtual 117, 0, 0, .null),
  (264, .ireturn, 0, 0, .null),
  (265, .aload_n 0, 0, 0, .null),
  (266, .iload_n 2, 2, 0, .null),
  (267, .iload_n 3, 3, 0, .null),
  (268, .aload_n 0, 0, 0, .null),
  (269, .getfield 18, 3, 3, .null),
  (272, .iload 4, 4, 0, .null),
  (274, .iaload, 0, 0, .null),
  (275, .invokevirtual 151, 0, 0, .null),
  (278, .ireturn, 0, 0, .null),
  (279, .nop, 0, 0, .null)]
theorem o_Ma_carryOut : xOK y_Ma_carryOut xk_Ma r_Ma_carryOut := ⟨xk_Ma_ok, by decide +kernel⟩
def y_Ma_put : xMD := (⟨"DataShrinker$Machine", "put", "(II)I"⟩, prog_5_method_10_code, 3, (some .int), { frames := 0, cells := 0, slots := 0, locals := 0 })
def r_Ma_put : List xRw := [(0, .aload_n 0, 0, 0, .null),
  (1, .getfield 18, 3, 3, .null),
  (4, .iload_n 1, 1, 0, .null),
  (5, .iload_n 2, 2, 0, .null),
  (6, .iastore, 0, 0, .null),
  (7, .aload_n 0, 0, 0, .null),
  (8, .dup, 0, 0, .null),
  (9, .getfield 65, 10, 3, .null),
  (12, .iconst 1, 0, 0, .int 1),
  (13, .iadd, 0, 0, .null),
  (14, .putfield 65, 10, 3, .int 0),
  (17, .iconst (-1), 0, 0, .int (-1)),
  (18, .ireturn, 0, 0, .null),
  (19, .nop, 0, 0, .null)]
theorem o_Ma_put : xOK y_Ma_put xk_Ma r_Ma_put := ⟨xk_Ma_ok, by decide +kernel⟩
def y_Ma_load : xMD := (⟨"DataShrinker$Machine", "load", "(III)I"⟩, prog_5_method_11_code, 4, (some .int), { frames := 2, cells := 0, slots := 0, locals := 44 })
def r_Ma_load : List xRw := [(0, .aload_n 0, 0, 0, .null),
  (1, .getfield 30, 0, 3, .null),
  (4, .iload_n 2, 2, 0, .null),
  (5, .iload_n 3, 3, 0, .null),
  (6, .invokevirtual 154, 0, 0, .null),
  (9, .ifCond .eq 13, 22, 0, .null),
  (12, .aload_n 0, 0, 0, .null),
  (13, .getfield 15, 2, 3, .null),
  (16, .iload_n 2, 2, 0, .null),
  (17, .iaload, 0, 0, .null),
  (18, .iconst (-1), 0, 0, .int (-1)),
  (19, .if_icmp .ne 5, 24, 0, .null),
  (22, .iconst 1, 0, 0, .int 1),
  (23, .ireturn, 0, 0, .null),
  (24, .aload_n 0, 0, 0, .null),
  (25, .iload_n 1, 1, 0, .null),
  (26, .aload_n 0, 0, 0, .null),
  (27, .getfield 9, 1, 3, .null),
  (30, .aload_n 0, 0, 0, .null),
  (31, .getfield 15, 2, 3, .null),
  (34, .iload_n 2, 2, 0, .null),
  (35, .iaload, 0, 0, .null),
  (36, .iload_n 3, 3, 0, .null),
  (37, .iadd, 0, 0, .null),
  (38, .iaload, 0, 0, .null),
  (39, .invokevirtual 117, 0, 0, .null),
  (42, .ireturn, 0, 0, .null),
  (43, .nop, 0, 0, .null)]
theorem o_Ma_load : xOK y_Ma_load xk_Ma r_Ma_load := ⟨xk_Ma_ok, by decide +kernel⟩
def y_Ma_store : xMD := (⟨"DataShrinker$Machine", "store", "(III)I"⟩, prog_5_method_12_code, 4, (some .int), { frames := 2, cells := 0, slots := 0, locals := 44 })
def r_Ma_store : List xRw := [(0, .aload_n 0, 0, 0, .null),
  (1, .getfield 30, 0, 3, .null),
  (4, .iload_n 1, 1, 0, .null),
  (5, .iload_n 2, 2, 0, .null),
  (6, .invokevirtual 154, 0, 0, .null),
  (9, .ifCond .ne 5, 14, 0, .null),
  (12, .iconst 1, 0, 0, .int 1),
  (13, .ireturn, 0, 0, .null),
  (14, .aload_n 0, 0, 0, .null),
  (15, .getfield 15, 2, 3, .null),
  (18, .iload_n 1, 1, 0, .null),
  (19, .iaload, 0, 0, .null),
  (20, .iconst (-1), 0, 0, .int (-1)),
  (21, .if_icmp .eq 17, 38, 0, .null),
  (24, .aload_n 0, 0, 0, .null),
  (25, .getfield 9, 1, 3, .null),
  (28, .aload_n 0, 0, 0, .null),
  (29, .getfield 15, 2, 3, .null),
  (32, .iload_n 1, 1, 0, .null),
  (33, .iaload, 0, 0, .null),
  (34, .iload_n 2, 2, 0, .null),
  (35, .iadd, 0, 0, .null),
  (36, .iload_n 3, 3, 0, .null),
  (37, .iastore, 0, 0, .null),
  (38, .aload_n 0, 0, 0, .null),
  (39, .dup, 0, 0, .null),
  (40, .getfield 65, 10, 3, .null),
  (43, .iconst 1, 0, 0, .int 1),
  (44, .iadd, 0, 0, .null),
  (45, .putfield 65, 10, 3, .int 0),
  (48, .iconst (-1), 0, 0, .int (-1)),
  (49, .ireturn, 0, 0, .null),
  (50, .nop, 0, 0, .null)]
theorem o_Ma_store : xOK y_Ma_store xk_Ma r_Ma_store := ⟨xk_Ma_ok, by decide +kernel⟩
def y_Ma_openFunction : xMD := (⟨"DataShrinker$Machine", "openFunction", "(I)I"⟩, prog_5_method_13_code, 2, (some .int), { frames := 0, cells := 0, slots := 0, locals := 0 })
def r_Ma_openFunction : List xRw := [(0, .aload_n 0, 0, 0, .null),
  (1, .getfield 86, 8, 3, .null),
  (4, .bipush 16, 0, 0, .int 16),
  (6, .if_icmp .ne 5, 11, 0, .null),
  (9, .iconst 3, 0, 0, .int 3),
  (10, .ireturn, 0, 0, .null),
  (11, .aload_n 0, 0, 0, .null),
  (12, .getfield 21, 4, 3, .null),
  (15, .aload_n 0, 0, 0, .null),
  (16, .getfield 86, 8, 3, .null),
  (19, .aload_n 0, 0, 0, .null),
  (20, .getfield 62, 9, 3, .null),
  (23, .iastore, 0, 0, .null),
  (24, .aload_n 0, 0, 0, .null),
  (25, .getfield 24, 5, 3, .null),
  (28, .aload_n 0, 0, 0, .null),
  (29, .getfield 86, 8, 3, .null),
  (32, .aload_n 0, 0, 0, .null),
  (33, .getfield 65, 10, 3, .null),
  (36, .iconst 1, 0, 0, .int 1),
  (37, .iadd, 0, 0, .null),
  (38, .iastore, 0, 0, .null),
  (39, .aload_n 0, 0, 0, .null),
  (40, .dup, 0, 0, .null),
  (41, .getfield 86, 8, 3, .null),
  (44, .iconst 1, 0, 0, .int 1),
  (45, .iadd, 0, 0, .null),
  (46, .putfield 86, 8, 3, .int 0),
  (49, .aload_n 0, 0, 0, .null),
  (50, .iload_n 1, 1, 0, .null),
  (51, .putfield 62, 9, 3, .int 0),
  (54, .aload_n 0, 0, 0, .null),
  (55, .iconst 0, 0, 0, .int 0),
  (56, .putfield 65, 10, 3, .int 0),
  (59, .iconst (-1), 0, 0, .int (-1)),
  (60, .ireturn, 0, 0, .null),
  (61, .nop, 0, 0, .null)]
theorem o_Ma_openFunction : xOK y_Ma_openFunction xk_Ma r_Ma_openFunction := ⟨xk_Ma_ok, by decide +kernel⟩
def y_Ma_skip : xMD := (⟨"DataShrinker$Machine", "skip", "(I)I"⟩, prog_5_method_14_code, 2, (some .int), { frames := 0, cells := 0, slots := 0, locals := 0 })
def r_Ma_skip : List xRw := [(0, .aload_n 0, 0, 0, .null),
  (1, .iload_n 1, 1, 0, .null),
  (2, .ifCond .ge 18, 20, 0, .null),
  (5, .aload_n 0, 0, 0, .null),
  (6, .getfield 30, 0, 3, .null),
  (9, .getfield 83, 7, 4, .null),
  (12, .aload_n 0, 0, 0, .null),
  (13, .getfield 62, 9, 3, .null),
  (16, .iaload, 0, 0, .null),
  (17, .goto 4, 21, 0, .null),
  (20, .iload_n 1, 1, 0, .null),
  (21, .putfield 65, 10, 3, .int 0),
  (24, .iconst (-1), 0, 0, .int (-1)),
  (25, .ireturn, 0, 0, .null),
  (26, .nop, 0, 0, .null)]
theorem o_Ma_skip : xOK y_Ma_skip xk_Ma r_Ma_skip := ⟨xk_Ma_ok, by decide +kernel⟩
def y_Ma_send : xMD := (⟨"DataShrinker$Machine", "send", "(I)I"⟩, prog_5_method_15_code, 2, (some .int), { frames := 0, cells := 0, slots := 0, locals := 0 })
def r_Ma_send : List xRw := [(0, .aload_n 0, 0, 0, .null),
  (1, .getfield 55, 12, 3, .null),
  (4, .bipush 100, 0, 0, .int 100),
  (6, .if_icmp .ge 13, 19, 0, .null),
  (9, .aload_n 0, 0, 0, .null),
  (10, .getfield 27, 6, 3, .null),
  (13, .aload_n 0, 0, 0, .null),
  (14, .getfield 55, 12, 3, .null),
  (17, .iload_n 1, 1, 0, .null),
  (18, .iastore, 0, 0, .null),
  (19, .aload_n 0, 0, 0, .null),
  (20, .dup, 0, 0, .null),
  (21, .getfield 55, 12, 3, .null),
  (24, .iconst 1, 0, 0, .int 1),
  (25, .iadd, 0, 0, .null),
  (26, .putfield 55, 12, 3, .int 0),
  (29, .aload_n 0, 0, 0, .null),
  (30, .dup, 0, 0, .null),
  (31, .getfield 65, 10, 3, .null),
  (34, .iconst 1, 0, 0, .int 1),
  (35, .iadd, 0, 0, .null),
  (36, .putfield 65, 10, 3, .int 0),
  (39, .iconst (-1), 0, 0, .int (-1)),
  (40, .ireturn, 0, 0, .null),
  (41, .nop, 0, 0, .null)]
theorem o_Ma_send : xOK y_Ma_send xk_Ma r_Ma_send := ⟨xk_Ma_ok, by decide +kernel⟩
def y_Ma_takeInput : xMD := (⟨"DataShrinker$Machine", "takeInput", "()I"⟩, prog_5_method_16_code, 1, (some .int), { frames := 0, cells := 0, slots := 0, locals := 0 })
def r_Ma_takeInput : List xRw := [(0, .aload_n 0, 0, 0, .null),
  (1, .getfield 102, 11, 3, .null),
  (4, .aload_n 0, 0, 0, .null),
  (5, .getfield 30, 0, 3, .null),
  (8, .getfield 157, 14, 4, .null),
  (11, .if_icmp .lt 5, 16, 0, .null),
  (14, .iconst 0, 0, 0, .int 0),
  (15, .ireturn, 0, 0, .null),
  (16, .aload_n 0, 0, 0, .null),
  (17, .dup, 0, 0, .null),
  (18, .getfield 102, 11, 3, .null),
  (21, .iconst 1, 0, 0, .int 1),
  (22, .iadd, 0, 0, .null),
  (23, .putfield 102, 11, 3, .int 0),
  (26, .aload_n 0, 0, 0, .null),
  (27, .getfield 30, 0, 3, .null),
  (30, .getfield 160, 13, 4, .null),
  (33, .aload_n 0, 0, 0, .null),
  (34, .getfield 102, 11, 3, .null),
  (37, .iconst 1, 0, 0, .int 1),
  (38, .isub, 0, 0, .null),
  (39, .iaload, 0, 0, .null),
  (40, .ireturn, 0, 0, .null),
  (41, .nop, 0, 0, .null)]
theorem o_Ma_takeInput : xOK y_Ma_takeInput xk_Ma r_Ma_takeInput := ⟨xk_Ma_ok, by decide +kernel⟩
def y_Ma_standAsOne : xMD := (⟨"DataShrinker$Machine", "standAsOne", "(II)Z"⟩, prog_5_method_17_code, 3, (some .boolean), { frames := 0, cells := 0, slots := 0, locals := 0 })
def r_Ma_standAsOne : List xRw := [(0, .iload_n 1, 1, 0, .null),
  (1, .iload_n 2, 2, 0, .null),
  (2, .if_icmp .eq 28, 30, 0, .null),
  (5, .aload_n 0, 0, 0, .null),
  (6, .getfield 15, 2, 3, .null),
  (9, .iload_n 1, 1, 0, .null),
  (10, .iaload, 0, 0, .null),
  (11, .iconst (-1), 0, 0, .int (-1)),
  (12, .if_icmp .eq 22, 34, 0, .null),
  (15, .aload_n 0, 0, 0, .null),
  (16, .getfield 15, 2, 3, .null),
  (19, .iload_n 1, 1, 0, .null),
  (20, .iaload, 0, 0, .null),
  (21, .aload_n 0, 0, 0, .null),
  (22, .getfield 15, 2, 3, .null),
  (25, .iload_n 2, 2, 0, .null),
  (26, .iaload, 0, 0, .null),
  (27, .if_icmp .ne 7, 34, 0, .null),
  (30, .iconst 1, 0, 0, .int 1),
  (31, .goto 4, 35, 0, .null),
  (34, .iconst 0, 0, 0, .int 0),
  (35, .ireturn, 0, 0, .null),
  (36, .nop, 0, 0, .null)]
theorem o_Ma_standAsOne : xOK y_Ma_standAsOne xk_Ma r_Ma_standAsOne := ⟨xk_Ma_ok, by decide +kernel⟩
def y_Ma_follow : xMD := (⟨"DataShrinker$Machine", "follow", "(III)I"⟩, prog_5_method_18_code, 4, (some .int), { frames := 3, cells := 0, slots := 0, locals := 67 })
def r_Ma_follow : List xRw := [(0, .aload_n 0, 0, 0, .null),
  (1, .getfield 30, 0, 3, .null),
  (4, .iload_n 2, 2, 0, .null),
  (5, .iload_n 3, 3, 0, .null),
  (6, .invokevirtual 154, 0, 0, .null),
  (9, .ifCond .eq 15, 24, 0, .null),
  (12, .aload_n 0, 0, 0, .null),
  (13, .getfield 30, 0, 3, .null),
  (16, .iload_n 2, 2, 0, .null),
  (17, .iload_n 3, 3, 0, .null),
  (18, .invokevirtual 163, 0, 0, .null),
  (21, .ifCond .ne 5, 26, 0, .null),
  (24, .iconst 1, 0, 0, .int 1),
  (25, .ireturn, 0, 0, .null),
  (26, .aload_n 0, 0, 0, .null),
  (27, .iload_n 1, 1, 0, .null),
  (28, .aload_n 0, 0, 0, .null),
  (29, .getfield 30, 0, 3, .null),
  (32, .getfield 166, 5, 4, .null),
  (35, .iload_n 2, 2, 0, .null),
  (36, .bipush 64, 0, 0, .int 64),
  (38, .imul, 0, 0, .null),
  (39, .iload_n 3, 3, 0, .null),
  (40, .iadd, 0, 0, .null),
  (41, .iaload, 0, 0, .null),
  (42, .iconst 0, 0, 0, .int 0),
  (43, .invokevirtual 123, 0, 0, .null),
  (46, .ireturn, 0, 0, .null),
  (47, .nop, 0, 0, .null)]
theorem o_Ma_follow : xOK y_Ma_follow xk_Ma r_Ma_follow := ⟨xk_Ma_ok, by decide +kernel⟩
def y_Ma_takeAsLaid : xMD := (⟨"DataShrinker$Machine", "takeAsLaid", "(LDataShrinker$Layout;)V"⟩, prog_5_method_3_code, 2, none, { frames := 1, cells := 0, slots := 0, locals := 26 })
def r_Ma_takeAsLaid : List xRw := [(0, .aload_n 1, 1, 0, .null),
  (1, .getfield 45, 9, 2, .null),
  (4, .iconst 0, 0, 0, .int 0),
  (5, .aload_n 0, 0, 0, .null),
  (6, .getfield 15, 2, 3, .null),
  (9, .iconst 0, 0, 0, .int 0),
  (10, .bipush 24, 0, 0, .int 24),
  (12, .invokestatic 39, 0, 0, .null),
  (15, .aload_n 1, 1, 0, .null),
  (16, .getfield 50, 12, 2, .null),
  (19, .iconst 0, 0, 0, .int 0),
  (20, .aload_n 0, 0, 0, .null),
  (21, .getfield 9, 1, 3, .null),
  (24, .iconst 0, 0, 0, .int 0),
  (25, .sipush 1728, 0, 0, .int 1728),
  (28, .invokestatic 39, 0, 0, .null),
  (31, .return_, 0, 0, .null),
  (32, .nop, 0, 0, .null)]
theorem o_Ma_takeAsLaid : xOK y_Ma_takeAsLaid xk_Ma r_Ma_takeAsLaid := ⟨xk_Ma_ok, by decide +kernel⟩
def y_Ma_tell : xMD := (⟨"DataShrinker$Machine", "tell", "(I)I"⟩, prog_5_method_4_code, 2, (some .int), { frames := 0, cells := 0, slots := 0, locals := 0 })
def r_Ma_tell : List xRw := [(0, .aload_n 0, 0, 0, .null),
  (1, .getfield 51, 7, 3, .null),
  (4, .ifCond .ne 5, 9, 0, .null),
  (7, .iconst (-1), 0, 0, .int (-1)),
  (8, .ireturn, 0, 0, .null),
  (9, .iload_n 1, 1, 0, .null),
  (10, .tableswitch 50 0 3 #[30, 35, 40, 45], 0, 0, .null),
  (40, .aload_n 0, 0, 0, .null),
  (41, .getfield 55, 12, 3, .null),
  (44, .ireturn, 0, 0, .null),
  (45, .aload_n 0, 0, 0, .null),
  (46, .getfield 59, 13, 3, .null),
  (49, .ireturn, 0, 0, .null),
  (50, .aload_n 0, 0, 0, .null),
  (51, .getfield 62, 9, 3, .null),
  (54, .ireturn, 0, 0, .null),
  (55, .aload_n 0, 0, 0, .null),
  (56, .getfield 65, 10, 3, .null),
  (59, .ireturn, 0, 0, .null),
  (60, .iconst (-1), 0, 0, .int (-1)),
  (61, .ireturn, 0, 0, .null),
  (62, .nop, 0, 0, .null)]
theorem o_Ma_tell : xOK y_Ma_tell xk_Ma r_Ma_tell := ⟨xk_Ma_ok, by decide +kernel⟩
def y_Ma_sentAt : xMD := (⟨"DataShrinker$Machine", "sentAt", "(I)I"⟩, prog_5_method_5_code, 2, (some .int), { frames := 1, cells := 0, slots := 0, locals := 22 })
def r_Ma_sentAt : List xRw := [(0, .iload_n 1, 1, 0, .null),
  (1, .iconst 0, 0, 0, .int 0),
  (2, .aload_n 0, 0, 0, .null),
  (3, .getfield 55, 12, 3, .null),
  (6, .bipush 100, 0, 0, .int 100),
  (8, .invokestatic 68, 0, 0, .null),
  (11, .iconst 1, 0, 0, .int 1),
  (12, .isub, 0, 0, .null),
  (13, .invokestatic 74, 0, 0, .null),
  (16, .ifCond .eq 12, 28, 0, .null),
  (19, .aload_n 0, 0, 0, .null),
  (20, .getfield 27, 6, 3, .null),
  (23, .iload_n 1, 1, 0, .null),
  (24, .iaload, 0, 0, .null),
  (25, .goto 4, 29, 0, .null),
  (28, .iconst (-1), 0, 0, .int (-1)),
  (29, .ireturn, 0, 0, .null),
  (30, .nop, 0, 0, .null)]
theorem o_Ma_sentAt : xOK y_Ma_sentAt xk_Ma r_Ma_sentAt := ⟨xk_Ma_ok, by decide +kernel⟩
def y_Re_work : xMD := (⟨"DataShrinker$Reach", "work", "()V"⟩, prog_8_method_2_code, 3, none, { frames := 6, cells := 0, slots := 0, locals := 142 })
def r_Re_work : List xRw := [(0, .aload_n 0, 0, 0, .null),
  (1, .invokevirtual 57, 0, 0, .null),
  (4, .aload_n 0, 0, 0, .null),
  (5, .invokevirtual 60, 0, 0, .null),
  (8, .aload_n 0, 0, 0, .null),
  (9, .invokevirtual 63, 0, 0, .null),
  (12, .aload_n 0, 0, 0, .null),
  (13, .invokevirtual 66, 0, 0, .null),
  (16, .iconst 1, 0, 0, .int 1),
  (17, .istore_n 1, 1, 0, .null),
  (18, .iconst 0, 0, 0, .int 0),
  (19, .istore_n 2, 2, 0, .null),
  (20, .iload_n 2, 2, 0, .null),
  (21, .ldc 69, 0, 0, .int 1000000),
  (23, .if_icmp .ge 18, 41, 0, .null),
  (26, .iload_n 1, 1, 0, .null),
  (27, .ifCond .eq 14, 41, 0, .null),
  (30, .aload_n 0, 0, 0, .null),
  (31, .invokevirtual 70, 0, 0, .null),
  (34, .istore_n 1, 1, 0, .null),
  (35, .iinc 2 1, 2, 0, .int 1),
  (38, .goto (-18), 20, 0, .null),
  (41, .aload_n 0, 0, 0, .null),
  (42, .getfield 14, 1, 5, .null),
  (45, .aload_n 0, 0, 0, .null),
  (46, .getfield 53, 0, 5, .null),
  (49, .getfield 74, 12, 4, .null),
  (52, .invokevirtual 79, 0, 0, .null),
  (55, .return_, 0, 0, .null),
  (56, .nop, 0, 0, .null)]
theorem o_Re_work : xOK y_Re_work xk_Re r_Re_work := ⟨xk_Re_ok, by decide +kernel⟩
def y_Re_forget : xMD := (⟨"DataShrinker$Reach", "forget", "()V"⟩, prog_8_method_5_code, 2, none, { frames := 3, cells := 0, slots := 0, locals := 68 })
def r_Re_forget : List xRw := [(0, .aload_n 0, 0, 0, .null),
  (1, .getfield 14, 1, 5, .null),
  (4, .invokevirtual 102, 0, 0, .null),
  (7, .aload_n 0, 0, 0, .null),
  (8, .invokevirtual 103, 0, 0, .null),
  (11, .aload_n 0, 0, 0, .null),
  (12, .getfield 31, 5, 5, .null),
  (15, .lconst 0, 0, 0, .long 0),
  (16, .invokestatic 106, 0, 0, .null),
  (19, .aload_n 0, 0, 0, .null),
  (20, .getfield 34, 6, 5, .null),
  (23, .lconst 0, 0, 0, .long 0),
  (24, .invokestatic 106, 0, 0, .null),
  (27, .aload_n 0, 0, 0, .null),
  (28, .getfield 37, 7, 5, .null),
  (31, .lconst 0, 0, 0, .long 0),
  (32, .invokestatic 106, 0, 0, .null),
  (35, .aload_n 0, 0, 0, .null),
  (36, .getfield 43, 9, 5, .null),
  (39, .lconst 0, 0, 0, .long 0),
  (40, .invokestatic 106, 0, 0, .null),
  (43, .iconst 0, 0, 0, .int 0),
  (44, .istore_n 1, 1, 0, .null),
  (45, .iload_n 1, 1, 0, .null),
  (46, .bipush 24, 0, 0, .int 24),
  (48, .if_icmp .ge 23, 71, 0, .null),
  (51, .aload_n 0, 0, 0, .null),
  (52, .getfield 46, 10, 5, .null),
  (55, .iload_n 1, 1, 0, .null),
  (56, .iconst 0, 0, 0, .int 0),
  (57, .bastore, 0, 0, .null),
  (58, .aload_n 0, 0, 0, .null),
  (59, .getfield 50, 11, 5, .null),
  (62, .iload_n 1, 1, 0, .null),
  (63, .iconst 0, 0, 0, .int 0),
  (64, .bastore, 0, 0, .null),
  (65, .iinc 1 1, 1, 0, .int 1),
  (68, .goto (-23), 45, 0, .null),
  (71, .aload_n 0, 0, 0, .null),
  (72, .getfield 53, 0, 5, .null),
  (75, .getfield 112, 7, 4, .null),
  (78, .iconst 0, 0, 0, .int 0),
  (79, .aload_n 0, 0, 0, .null),
  (80, .getfield 20, 2, 5, .null),
  (83, .iconst 0, 0, 0, .int 0),
  (84, .bipush 12, 0, 0, .int 12),
  (86, .invokestatic 113, 0, 0, .null),
  (89, .return_, 0, 0, .null),
  (90, .nop, 0, 0, .null)]
theorem o_Re_forget : xOK y_Re_forget xk_Re r_Re_forget := ⟨xk_Re_ok, by decide +kernel⟩
def y_Re_forgetStates : xMD := (⟨"DataShrinker$Reach", "forgetStates", "()V"⟩, prog_8_method_6_code, 2, none, { frames := 2, cells := 0, slots := 0, locals := 47 })
def r_Re_forgetStates : List xRw := [(0, .iconst 0, 0, 0, .int 0),
  (1, .istore_n 1, 1, 0, .null),
  (2, .iload_n 1, 1, 0, .null),
  (3, .bipush 12, 0, 0, .int 12),
  (5, .if_icmp .ge 46, 51, 0, .null),
  (8, .aload_n 0, 0, 0, .null),
  (9, .getfield 31, 5, 5, .null),
  (12, .iload_n 1, 1, 0, .null),
  (13, .laload, 0, 0, .null),
  (14, .lconst 0, 0, 0, .long 0),
  (15, .lcmp, 0, 0, .null),
  (16, .ifCond .eq 29, 45, 0, .null),
  (19, .aload_n 0, 0, 0, .null),
  (20, .getfield 24, 3, 5, .null),
  (23, .iload_n 1, 1, 0, .null),
  (24, .bipush 41, 0, 0, .int 41),
  (26, .imul, 0, 0, .null),
  (27, .iconst 0, 0, 0, .int 0),
  (28, .invokestatic 95, 0, 0, .null),
  (31, .iload_n 1, 1, 0, .null),
  (32, .iconst 1, 0, 0, .int 1),
  (33, .iadd, 0, 0, .null),
  (34, .bipush 41, 0, 0, .int 41),
  (36, .imul, 0, 0, .null),
  (37, .iconst 0, 0, 0, .int 0),
  (38, .invokestatic 95, 0, 0, .null),
  (41, .lconst 0, 0, 0, .long 0),
  (42, .invokestatic 119, 0, 0, .null),
  (45, .iinc 1 1, 1, 0, .int 1),
  (48, .goto (-46), 2, 0, .null),
  (51, .return_, 0, 0, .null),
  (52, .nop, 0, 0, .null)]
theorem o_Re_forgetStates : xOK y_Re_forgetStates xk_Re r_Re_forgetStates := ⟨xk_Re_ok, by decide +kernel⟩
def y_Re_setAt : xMD := (⟨"DataShrinker$Reach", "setAt", "(II)I"⟩, prog_8_method_27_code, 2, (some .int), { frames := 0, cells := 0, slots := 0, locals := 0 })
def r_Re_setAt : List xRw := [(0, .iload_n 0, 0, 0, .null),
  (1, .bipush 16, 0, 0, .int 16),
  (3, .imul, 0, 0, .null),
  (4, .iload_n 1, 1, 0, .null),
  (5, .iconst 4, 0, 0, .int 4),
  (6, .imul, 0, 0, .null),
  (7, .iadd, 0, 0, .null),
  (8, .ireturn, 0, 0, .null),
  (9, .nop, 0, 0, .null)]
theorem o_Re_setAt : xOK y_Re_setAt xk_Re r_Re_setAt := ⟨xk_Re_ok, by decide +kernel⟩
def y_Re_standAsTold : xMD := (⟨"DataShrinker$Reach", "standAsTold", "()V"⟩, prog_8_method_7_code, 3, none, { frames := 2, cells := 0, slots := 0, locals := 47 })
def r_Re_standAsTold : List xRw := [(0, .iconst 0, 0, 0, .int 0),
  (1, .istore_n 1, 1, 0, .null),
  (2, .iload_n 1, 1, 0, .null),
  (3, .bipush 24, 0, 0, .int 24),
  (5, .if_icmp .ge 82, 87, 0, .null),
  (8, .aload_n 0, 0, 0, .null),
  (9, .getfield 28, 4, 5, .null),
  (12, .iload_n 1, 1, 0, .null),
  (13, .iconst 0, 0, 0, .int 0),
  (14, .invokestatic 122, 0, 0, .null),
  (17, .iload_n 1, 1, 0, .null),
  (18, .aload_n 0, 0, 0, .null),
  (19, .getfield 53, 0, 5, .null),
  (22, .getfield 125, 0, 4, .null),
  (25, .iload_n 1, 1, 0, .null),
  (26, .iaload, 0, 0, .null),
  (27, .invokestatic 122, 0, 0, .null),
  (30, .lconst 0, 0, 0, .long 0),
  (31, .invokestatic 119, 0, 0, .null),
  (34, .iconst 0, 0, 0, .int 0),
  (35, .istore_n 2, 2, 0, .null),
  (36, .iload_n 2, 2, 0, .null),
  (37, .aload_n 0, 0, 0, .null),
  (38, .getfield 53, 0, 5, .null),
  (41, .getfield 125, 0, 4, .null),
  (44, .iload_n 1, 1, 0, .null),
  (45, .iaload, 0, 0, .null),
  (46, .if_icmp .ge 35, 81, 0, .null),
  (49, .aload_n 0, 0, 0, .null),
  (50, .getfield 28, 4, 5, .null),
  (53, .iload_n 1, 1, 0, .null),
  (54, .iload_n 2, 2, 0, .null),
  (55, .invokestatic 122, 0, 0, .null),
  (58, .aload_n 0, 0, 0, .null),
  (59, .getfield 53, 0, 5, .null),
  (62, .getfield 128, 4, 4, .null),
  (65, .iload_n 1, 1, 0, .null),
  (66, .bipush 64, 0, 0, .int 64),
  (68, .imul, 0, 0, .null),
  (69, .iload_n 2, 2, 0, .null),
  (70, .iadd, 0, 0, .null),
  (71, .iaload, 0, 0, .null),
  (72, .invokestatic 131, 0, 0, .null),
  (75, .iinc 2 1, 2, 0, .int 1),
  (78, .goto (-42), 36, 0, .null),
  (81, .iinc 1 1, 1, 0, .int 1),
  (84, .goto (-82), 2, 0, .null),
  (87, .return_, 0, 0, .null),
  (88, .nop, 0, 0, .null)]
theorem o_Re_standAsTold : xOK y_Re_standAsTold xk_Re r_Re_standAsTold := ⟨xk_Re_ok, by decide +kernel⟩
def y_Re_standAt : xMD := (⟨"DataShrinker$Reach", "standAt", "(II)I"⟩, prog_8_method_28_code, 2, (some .int), { frames := 0, cells := 0, slots := 0, locals := 0 })
def r_Re_standAt : List xRw := [(0, .iload_n 0, 0, 0, .null),
  (1, .bipush 64, 0, 0, .int 64),
  (3, .imul, 0, 0, .null),
  (4, .iload_n 1, 1, 0, .null),
  (5, .iadd, 0, 0, .null),
  (6, .iconst 4, 0, 0, .int 4),
  (7, .imul, 0, 0, .null),
  (8, .ireturn, 0, 0, .null),
  (9, .nop, 0, 0, .null)]
theorem o_Re_standAt : xOK y_Re_standAt xk_Re r_Re_standAt := ⟨xk_Re_ok, by decide +kernel⟩
def y_Re_findSites : xMD := (⟨"DataShrinker$Reach", "findSites", "()V"⟩, prog_8_method_8_code, 4, none, { frames := 1, cells := 0, slots := 0, locals := 21 })
def r_Re_findSites : List xRw := [(0, .iconst 0, 0, 0, .int 0),
  (1, .istore_n 1, 1, 0, .null),
  (2, .iload_n 1, 1, 0, .null),
  (3, .bipush 12, 0, 0, .int 12),
  (5, .if_icmp .ge 60, 65, 0, .null),
  (8, .iconst 0, 0, 0, .int 0),
  (9, .istore_n 2, 2, 0, .null),
  (10, .iload_n 2, 2, 0, .null),
  (11, .aload_n 0, 0, 0, .null),
  (12, .getfield 20, 2, 5, .null),
  (15, .iload_n 1, 1, 0, .null),
  (16, .iaload, 0, 0, .null),
  (17, .if_icmp .ge 42, 59, 0, .null),
  (20, .aload_n 0, 0, 0, .null),
  (21, .iload_n 1, 1, 0, .null),
  (22, .bipush 40, 0, 0, .int 40),
  (24, .imul, 0, 0, .null),
  (25, .iload_n 2, 2, 0, .null),
  (26, .iadd, 0, 0, .null),
  (27, .invokevirtual 135, 0, 0, .null),
  (30, .istore_n 3, 3, 0, .null),
  (31, .iload_n 3, 3, 0, .null),
  (32, .iconst (-1), 0, 0, .int (-1)),
  (33, .if_icmp .eq 20, 53, 0, .null),
  (36, .aload_n 0, 0, 0, .null),
  (37, .getfield 37, 7, 5, .null),
  (40, .iload_n 3, 3, 0, .null),
  (41, .bipush 12, 0, 0, .int 12),
  (43, .imul, 0, 0, .null),
  (44, .iload_n 1, 1, 0, .null),
  (45, .iadd, 0, 0, .null),
  (46, .dup2, 0, 0, .null),
  (47, .laload, 0, 0, .null),
  (48, .lconst 1, 0, 0, .long 1),
  (49, .iload_n 2, 2, 0, .null),
  (50, .lshl, 0, 0, .null),
  (51, .lor, 0, 0, .null),
  (52, .lastore, 0, 0, .null),
  (53, .iinc 2 1, 2, 0, .int 1),
  (56, .goto (-46), 10, 0, .null),
  (59, .iinc 1 1, 1, 0, .int 1),
  (62, .goto (-60), 2, 0, .null),
  (65, .return_, 0, 0, .null),
  (66, .nop, 0, 0, .null)]
theorem o_Re_findSites : xOK y_Re_findSites xk_Re r_Re_findSites := ⟨xk_Re_ok, by decide +kernel⟩
def y_Re_wakerOf : xMD := (⟨"DataShrinker$Reach", "wakerOf", "(I)I"⟩, prog_8_method_9_code, 2, (some .int), { frames := 0, cells := 0, slots := 0, locals := 0 })
def r_Re_wakerOf : List xRw := [(0, .aload_n 0, 0, 0, .null),
  (1, .getfield 53, 0, 5, .null),
  (4, .getfield 139, 8, 4, .null),
  (7, .iload_n 1, 1, 0, .null),
  (8, .iaload, 0, 0, .null),
  (9, .lookupswitch 61 #[(3, 45), (5, 35), (11, 58)], 0, 0, .null),
  (44, .aload_n 0, 0, 0, .null),
  (45, .getfield 53, 0, 5, .null),
  (48, .getfield 142, 9, 4, .null),
  (51, .iload_n 1, 1, 0, .null),
  (52, .iaload, 0, 0, .null),
  (53, .ireturn, 0, 0, .null),
  (54, .bipush 12, 0, 0, .int 12),
  (56, .aload_n 0, 0, 0, .null),
  (57, .getfield 53, 0, 5, .null),
  (60, .getfield 145, 10, 4, .null),
  (63, .iload_n 1, 1, 0, .null),
  (64, .iaload, 0, 0, .null),
  (65, .iadd, 0, 0, .null),
  (66, .ireturn, 0, 0, .null),
  (67, .bipush 36, 0, 0, .int 36),
  (69, .ireturn, 0, 0, .null),
  (70, .iconst (-1), 0, 0, .int (-1)),
  (71, .ireturn, 0, 0, .null),
  (72, .nop, 0, 0, .null)]
theorem o_Re_wakerOf : xOK y_Re_wakerOf xk_Re r_Re_wakerOf := ⟨xk_Re_ok, by decide +kernel⟩
def y_Re_beginAtEntries : xMD := (⟨"DataShrinker$Reach", "beginAtEntries", "()V"⟩, prog_8_method_11_code, 4, none, { frames := 2, cells := 0, slots := 0, locals := 45 })
def r_Re_beginAtEntries : List xRw := [(0, .aload_n 0, 0, 0, .null),
  (1, .getfield 40, 8, 5, .null),
  (4, .iconst 0, 0, 0, .int 0),
  (5, .invokestatic 148, 0, 0, .null),
  (8, .iconst 0, 0, 0, .int 0),
  (9, .istore_n 1, 1, 0, .null),
  (10, .iload_n 1, 1, 0, .null),
  (11, .bipush 12, 0, 0, .int 12),
  (13, .if_icmp .ge 69, 82, 0, .null),
  (16, .aload_n 0, 0, 0, .null),
  (17, .getfield 53, 0, 5, .null),
  (20, .getfield 74, 12, 4, .null),
  (23, .iload_n 1, 1, 0, .null),
  (24, .baload, 0, 0, .null),
  (25, .ifCond .eq 51, 76, 0, .null),
  (28, .aload_n 0, 0, 0, .null),
  (29, .iload_n 1, 1, 0, .null),
  (30, .iconst 0, 0, 0, .int 0),
  (31, .invokevirtual 152, 0, 0, .null),
  (34, .istore_n 2, 2, 0, .null),
  (35, .iconst 0, 0, 0, .int 0),
  (36, .istore_n 3, 3, 0, .null),
  (37, .iload_n 3, 3, 0, .null),
  (38, .iconst 4, 0, 0, .int 4),
  (39, .if_icmp .ge 31, 70, 0, .null),
  (42, .aload_n 0, 0, 0, .null),
  (43, .getfield 24, 3, 5, .null),
  (46, .iload_n 1, 1, 0, .null),
  (47, .iload_n 2, 2, 0, .null),
  (48, .invokestatic 91, 0, 0, .null),
  (51, .iload_n 3, 3, 0, .null),
  (52, .invokestatic 95, 0, 0, .null),
  (55, .aload_n 0, 0, 0, .null),
  (56, .getfield 40, 8, 5, .null),
  (59, .iconst 0, 0, 0, .int 0),
  (60, .invokestatic 155, 0, 0, .null),
  (63, .pop, 0, 0, .null),
  (64, .iinc 3 1, 3, 0, .int 1),
  (67, .goto (-30), 37, 0, .null),
  (70, .aload_n 0, 0, 0, .null),
  (71, .iload_n 1, 1, 0, .null),
  (72, .iload_n 2, 2, 0, .null),
  (73, .invokevirtual 159, 0, 0, .null),
  (76, .iinc 1 1, 1, 0, .int 1),
  (79, .goto (-69), 10, 0, .null),
  (82, .return_, 0, 0, .null),
  (83, .nop, 0, 0, .null)]
theorem o_Re_beginAtEntries : xOK y_Re_beginAtEntries xk_Re r_Re_beginAtEntries := ⟨xk_Re_ok, by decide +kernel⟩
def y_Re_placeIn : xMD := (⟨"DataShrinker$Reach", "placeIn", "(II)I"⟩, prog_8_method_24_code, 3, (some .int), { frames := 0, cells := 0, slots := 0, locals := 0 })
def r_Re_placeIn : List xRw := [(0, .iload_n 2, 2, 0, .null),
  (1, .ifCond .lt 13, 14, 0, .null),
  (4, .iload_n 2, 2, 0, .null),
  (5, .aload_n 0, 0, 0, .null),
  (6, .getfield 20, 2, 5, .null),
  (9, .iload_n 1, 1, 0, .null),
  (10, .iaload, 0, 0, .null),
  (11, .if_icmp .lt 8, 19, 0, .null),
  (14, .bipush 40, 0, 0, .int 40),
  (16, .goto 4, 20, 0, .null),
  (19, .iload_n 2, 2, 0, .null),
  (20, .ireturn, 0, 0, .null),
  (21, .nop, 0, 0, .null)]
theorem o_Re_placeIn : xOK y_Re_placeIn xk_Re r_Re_placeIn := ⟨xk_Re_ok, by decide +kernel⟩
def y_Re_slotOf : xMD := (⟨"DataShrinker$Reach", "slotOf", "(II)I"⟩, prog_8_method_26_code, 2, (some .int), { frames := 0, cells := 0, slots := 0, locals := 0 })
def r_Re_slotOf : List xRw := [(0, .iload_n 0, 0, 0, .null),
  (1, .bipush 41, 0, 0, .int 41),
  (3, .imul, 0, 0, .null),
  (4, .iload_n 1, 1, 0, .null),
  (5, .iadd, 0, 0, .null),
  (6, .ireturn, 0, 0, .null),
  (7, .nop, 0, 0, .null)]
theorem o_Re_slotOf : xOK y_Re_slotOf xk_Re r_Re_slotOf := ⟨xk_Re_ok, by decide +kernel⟩
def y_Re_arriveAt : xMD := (⟨"DataShrinker$Reach", "arriveAt", "(II)V"⟩, prog_8_method_23_code, 3, none, { frames := 0, cells := 0, slots := 0, locals := 0 })
def r_Re_arriveAt : List xRw := [(0, .aload_n 0, 0, 0, .null),
  (1, .getfield 31, 5, 5, .null),
  (4, .iload_n 1, 1, 0, .null),
  (5, .dup2, 0, 0, .null),
  (6, .laload, 0, 0, .null),
  (7, .lconst 1, 0, 0, .long 1),
  (8, .iload_n 2, 2, 0, .null),
  (9, .lshl, 0, 0, .null),
  (10, .lor, 0, 0, .null),
  (11, .lastore, 0, 0, .null),
  (12, .aload_n 0, 0, 0, .null),
  (13, .getfield 34, 6, 5, .null),
  (16, .iload_n 1, 1, 0, .null),
  (17, .dup2, 0, 0, .null),
  (18, .laload, 0, 0, .null),
  (19, .lconst 1, 0, 0, .long 1),
  (20, .iload_n 2, 2, 0, .null),
  (21, .lshl, 0, 0, .null),
  (22, .lor, 0, 0, .null),
  (23, .lastore, 0, 0, .null),
  (24, .return_, 0, 0, .null),
  (25, .nop, 0, 0, .null)]
theorem o_Re_arriveAt : xOK y_Re_arriveAt xk_Re r_Re_arriveAt := ⟨xk_Re_ok, by decide +kernel⟩
def y_Re_goRound : xMD := (⟨"DataShrinker$Reach", "goRound", "()Z"⟩, prog_8_method_12_code, 5, (some .boolean), { frames := 5, cells := 0, slots := 0, locals := 118 })
def r_Re_goRound : List xRw := [(0, .iconst 0, 0, 0, .int 0),
  (1, .istore_n 1, 1, 0, .null),
  (2, .iconst 0, 0, 0, .int 0),
  (3, .istore_n 2, 2, 0, .null),
  (4, .iload_n 2, 2, 0, .null),
  (5, .bipush 12, 0, 0, .int 12),
  (7, .if_icmp .ge 71, 78, 0, .null),
  (10, .iconst 0, 0, 0, .int 0),
  (11, .istore_n 3, 3, 0, .null),
  (12, .iload_n 3, 3, 0, .null),
  (13, .ldc 69, 0, 0, .int 1000000),
  (15, .if_icmp .ge 57, 72, 0, .null),
  (18, .aload_n 0, 0, 0, .null),
  (19, .getfield 34, 6, 5, .null),
  (22, .iload_n 2, 2, 0, .null),
  (23, .laload, 0, 0, .null),
  (24, .lconst 0, 0, 0, .long 0),
  (25, .lcmp, 0, 0, .null),
  (26, .ifCond .eq 46, 72, 0, .null),
  (29, .aload_n 0, 0, 0, .null),
  (30, .getfield 34, 6, 5, .null),
  (33, .iload_n 2, 2, 0, .null),
  (34, .laload, 0, 0, .null),
  (35, .invokestatic 163, 0, 0, .null),
  (38, .istore 4, 4, 0, .null),
  (40, .aload_n 0, 0, 0, .null),
  (41, .getfield 34, 6, 5, .null),
  (44, .iload_n 2, 2, 0, .null),
  (45, .dup2, 0, 0, .null),
  (46, .laload, 0, 0, .null),
  (47, .lconst 1, 0, 0, .long 1),
  (48, .iload 4, 4, 0, .null),
  (50, .lshl, 0, 0, .null),
  (51, .ldc2_w 166, 0, 0, .long (-1)),
  (54, .lxor, 0, 0, .null),
  (55, .land, 0, 0, .null),
  (56, .lastore, 0, 0, .null),
  (57, .aload_n 0, 0, 0, .null),
  (58, .iload_n 2, 2, 0, .null),
  (59, .iload 4, 4, 0, .null),
  (61, .invokevirtual 168, 0, 0, .null),
  (64, .iconst 1, 0, 0, .int 1),
  (65, .istore_n 1, 1, 0, .null),
  (66, .iinc 3 1, 3, 0, .int 1),
  (69, .goto (-57), 12, 0, .null),
  (72, .iinc 2 1, 2, 0, .int 1),
  (75, .goto (-71), 4, 0, .null),
  (78, .iload_n 1, 1, 0, .null),
  (79, .ireturn, 0, 0, .null),
  (80, .nop, 0, 0, .null)]
theorem o_Re_goRound : xOK y_Re_goRound xk_Re r_Re_goRound := ⟨xk_Re_ok, by decide +kernel⟩
def y_Re_takeOn : xMD := (⟨"DataShrinker$Reach", "takeOn", "(II)V"⟩, prog_8_method_13_code, 8, none, { frames := 4, cells := 0, slots := 0, locals := 91 })
def r_Re_takeOn : List xRw := [(0, .iload_n 2, 2, 0, .null),
  (1, .aload_n 0, 0, 0, .null),
  (2, .getfield 20, 2, 5, .null),
  (5, .iload_n 1, 1, 0, .null),
  (6, .iaload, 0, 0, .null),
  (7, .if_icmp .lt 9, 16, 0, .null),
  (10, .aload_n 0, 0, 0, .null),
  (11, .iload_n 1, 1, 0, .null),
  (12, .invokevirtual 171, 0, 0, .null),
  (15, .return_, 0, 0, .null),
  (16, .iload_n 1, 1, 0, .null),
  (17, .iload_n 2, 2, 0, .null),
  (18, .invokestatic 91, 0, 0, .null),
  (21, .istore_n 3, 3, 0, .null),
  (22, .iload_n 1, 1, 0, .null),
  (23, .bipush 40, 0, 0, .int 40),
  (25, .imul, 0, 0, .null),
  (26, .iload_n 2, 2, 0, .null),
  (27, .iadd, 0, 0, .null),
  (28, .istore 4, 4, 0, .null),
  (30, .aload_n 0, 0, 0, .null),
  (31, .getfield 53, 0, 5, .null),
  (34, .getfield 142, 9, 4, .null),
  (37, .iload 4, 4, 0, .null),
  (39, .iaload, 0, 0, .null),
  (40, .istore 5, 5, 0, .null),
  (42, .aload_n 0, 0, 0, .null),
  (43, .getfield 53, 0, 5, .null),
  (46, .getfield 145, 10, 4, .null),
  (49, .iload 4, 4, 0, .null),
  (51, .iaload, 0, 0, .null),
  (52, .istore 6, 6, 0, .null),
  (54, .aload_n 0, 0, 0, .null),
  (55, .getfield 53, 0, 5, .null),
  (58, .getfield 175, 11, 4, .null),
  (61, .iload 4, 4, 0, .null),
  (63, .iaload, 0, 0, .null),
  (64, .istore 7, 7, 0, .null),
  (66, .aload_n 0, 0, 0, .null),
  (67, .getfield 53, 0, 5, .null),
  (70, .getfield 139, 8, 4, .null),
  (73, .iload 4, 4, 0, .null),
  (75, .iaload, 0, 0, .null),
  (76, .tableswitch 203 3 11 #[149, 52, 79, 115, 90, 103, 203, 203, 176], 0, 0, .null),
  (128, .aload_n 0, 0, 0, .null),
  (129, .iload_n 3, 3, 0, .null),
  (130, .iload 5, 5, 0, .null),
  (132, .iload 6, 6, 0, .null),
  (134, .iload 7, 7, 0, .null),
  (136, .invokevirtual 178, 0, 0, .null),
  (139, .ifCond .eq 158, 297, 0, .null),
  (142, .aload_n 0, 0, 0, .null),
  (143, .iload_n 3, 3, 0, .null),
  (144, .iload_n 1, 1, 0, .null),
  (145, .iload_n 2, 2, 0, .null),
  (146, .iconst 1, 0, 0, .int 1),
  (147, .iadd, 0, 0, .null),
  (148, .iconst (-1), 0, 0, .int (-1)),
  (149, .invokevirtual 182, 0, 0, .null),
  (152, .goto 145, 297, 0, .null),
  (155, .aload_n 0, 0, 0, .null),
  (156, .iload_n 1, 1, 0, .null),
  (157, .iload_n 2, 2, 0, .null),
  (158, .iload 5, 5, 0, .null),
  (160, .invokevirtual 186, 0, 0, .null),
  (163, .goto 134, 297, 0, .null),
  (166, .aload_n 0, 0, 0, .null),
  (167, .iload_n 3, 3, 0, .null),
  (168, .iload_n 1, 1, 0, .null),
  (169, .iload_n 2, 2, 0, .null),
  (170, .iconst 1, 0, 0, .int 1),
  (171, .iadd, 0, 0, .null),
  (172, .iconst (-1), 0, 0, .int (-1)),
  (173, .invokevirtual 182, 0, 0, .null),
  (176, .goto 121, 297, 0, .null),
  (179, .aload_n 0, 0, 0, .null),
  (180, .iload_n 3, 3, 0, .null),
  (181, .iload_n 1, 1, 0, .null),
  (182, .bipush 40, 0, 0, .int 40),
  (184, .iconst (-1), 0, 0, .int (-1)),
  (185, .invokevirtual 182, 0, 0, .null),
  (188, .goto 109, 297, 0, .null),
  (191, .aload_n 0, 0, 0, .null),
  (192, .iload_n 1, 1, 0, .null),
  (193, .iload_n 2, 2, 0, .null),
  (194, .iload 5, 5, 0, .null),
  (196, .iload 6, 6, 0, .null),
  (198, .invokevirtual 190, 0, 0, .null),
  (201, .aload_n 0, 0, 0, .null),
  (202, .iload_n 3, 3, 0, .null),
  (203, .iload 5, 5, 0, .null),
  (205, .invokevirtual 193, 0, 0, .null),
  (208, .ifCond .eq 89, 297, 0, .null),
  (211, .aload_n 0, 0, 0, .null),
  (212, .iload_n 3, 3, 0, .null),
  (213, .iload_n 1, 1, 0, .null),
  (214, .iload_n 2, 2, 0, .null),
  (215, .iconst 1, 0, 0, .int 1),
  (216, .iadd, 0, 0, .null),
  (217, .iload 5, 5, 0, .null),
  (219, .invokevirtual 182, 0, 0, .null),
  (222, .goto 75, 297, 0, .null),
  (225, .aload_n 0, 0, 0, .null),
  (226, .iload_n 1, 1, 0, .null),
  (227, .iload_n 3, 3, 0, .null),
  (228, .iload 6, 6, 0, .null),
  (230, .iload 7, 7, 0, .null),
  (232, .invokevirtual 197, 0, 0, .null),
  (235, .ifCond .eq 62, 297, 0, .null),
  (238, .aload_n 0, 0, 0, .null),
  (239, .iload_n 3, 3, 0, .null),
  (240, .iload_n 1, 1, 0, .null),
  (241, .iload_n 2, 2, 0, .null),
  (242, .iconst 1, 0, 0, .int 1),
  (243, .iadd, 0, 0, .null),
  (244, .iload 5, 5, 0, .null),
  (246, .invokevirtual 182, 0, 0, .null),
  (249, .goto 48, 297, 0, .null),
  (252, .aload_n 0, 0, 0, .null),
  (253, .iload_n 1, 1, 0, .null),
  (254, .iload_n 3, 3, 0, .null),
  (255, .iload 6, 6, 0, .null),
  (257, .iload 7, 7, 0, .null),
  (259, .invokevirtual 200, 0, 0, .null),
  (262, .ifCond .eq 35, 297, 0, .null),
  (265, .aload_n 0, 0, 0, .null),
  (266, .iload_n 3, 3, 0, .null),
  (267, .iload_n 1, 1, 0, .null),
  (268, .iload_n 2, 2, 0, .null),
  (269, .iconst 1, 0, 0, .int 1),
  (270, .iadd, 0, 0, .null),
  (271, .iload 5, 5, 0, .null),
  (273, .invokevirtual 182, 0, 0, .null),
  (276, .goto 21, 297, 0, .null),
  (279, .aload_n 0, 0, 0, .null),
  (280, .iload 4, 4, 0, .null),
  (282, .iload_n 3, 3, 0, .null),
  (283, .invokevirtual 203, 0, 0, .null),
  (286, .aload_n 0, 0, 0, .null),
  (287, .iload_n 3, 3, 0, .null),
  (288, .iload_n 1, 1, 0, .null),
  (289, .iload_n 2, 2, 0, .null),
  (290, .iconst 1, 0, 0, .int 1),
  (291, .iadd, 0, 0, .null),
  (292, .iload 5, 5, 0, .null),
  (294, .invokevirtual 182, 0, 0, .null),
  (297, .return_, 0, 0, .null),
  (298, .nop, 0, 0, .null)]
theorem o_Re_takeOn : xOK y_Re_takeOn xk_Re r_Re_takeOn := ⟨xk_Re_ok, by decide +kernel⟩
def y_Re_wake : xMD := (⟨"DataShrinker$Reach", "wake", "(I)V"⟩, prog_8_method_10_code, 3, none, { frames := 0, cells := 0, slots := 0, locals := 0 })
def r_Re_wake : List xRw := [(0, .iconst 0, 0, 0, .int 0),
  (1, .istore_n 2, 2, 0, .null),
  (2, .iload_n 2, 2, 0, .null),
  (3, .bipush 12, 0, 0, .int 12),
  (5, .if_icmp .ge 36, 41, 0, .null),
  (8, .aload_n 0, 0, 0, .null),
  (9, .getfield 34, 6, 5, .null),
  (12, .iload_n 2, 2, 0, .null),
  (13, .dup2, 0, 0, .null),
  (14, .laload, 0, 0, .null),
  (15, .aload_n 0, 0, 0, .null),
  (16, .getfield 37, 7, 5, .null),
  (19, .iload_n 1, 1, 0, .null),
  (20, .bipush 12, 0, 0, .int 12),
  (22, .imul, 0, 0, .null),
  (23, .iload_n 2, 2, 0, .null),
  (24, .iadd, 0, 0, .null),
  (25, .laload, 0, 0, .null),
  (26, .aload_n 0, 0, 0, .null),
  (27, .getfield 31, 5, 5, .null),
  (30, .iload_n 2, 2, 0, .null),
  (31, .laload, 0, 0, .null),
  (32, .land, 0, 0, .null),
  (33, .lor, 0, 0, .null),
  (34, .lastore, 0, 0, .null),
  (35, .iinc 2 1, 2, 0, .int 1),
  (38, .goto (-36), 2, 0, .null),
  (41, .return_, 0, 0, .null),
  (42, .nop, 0, 0, .null)]
theorem o_Re_wake : xOK y_Re_wake xk_Re r_Re_wake := ⟨xk_Re_ok, by decide +kernel⟩
def y_Re_takeStore : xMD := (⟨"DataShrinker$Reach", "takeStore", "(IIII)Z"⟩, prog_8_method_16_code, 9, (some .boolean), { frames := 2, cells := 0, slots := 0, locals := 43 })
def r_Re_takeStore : List xRw := [(0, .aload_n 0, 0, 0, .null),
  (1, .iload_n 1, 1, 0, .null),
  (2, .iload_n 3, 3, 0, .null),
  (3, .invokevirtual 216, 0, 0, .null),
  (6, .aload_n 0, 0, 0, .null),
  (7, .getfield 53, 0, 5, .null),
  (10, .iload_n 2, 2, 0, .null),
  (11, .invokevirtual 220, 0, 0, .null),
  (14, .land, 0, 0, .null),
  (15, .lstore 5, 5, 0, .null),
  (17, .lload 5, 5, 0, .null),
  (19, .lconst 0, 0, 0, .long 0),
  (20, .lcmp, 0, 0, .null),
  (21, .ifCond .ne 5, 26, 0, .null),
  (24, .iconst 0, 0, 0, .int 0),
  (25, .ireturn, 0, 0, .null),
  (26, .aload_n 0, 0, 0, .null),
  (27, .getfield 46, 10, 5, .null),
  (30, .iload_n 2, 2, 0, .null),
  (31, .iconst 1, 0, 0, .int 1),
  (32, .bastore, 0, 0, .null),
  (33, .iconst 0, 0, 0, .int 0),
  (34, .istore 7, 7, 0, .null),
  (36, .lload 5, 5, 0, .null),
  (38, .invokestatic 163, 0, 0, .null),
  (41, .istore 8, 8, 0, .null),
  (43, .iload 8, 8, 0, .null),
  (45, .aload_n 0, 0, 0, .null),
  (46, .getfield 53, 0, 5, .null),
  (49, .getfield 125, 0, 4, .null),
  (52, .iload_n 2, 2, 0, .null),
  (53, .iaload, 0, 0, .null),
  (54, .if_icmp .ge 49, 103, 0, .null),
  (57, .lload 5, 5, 0, .null),
  (59, .iload 8, 8, 0, .null),
  (61, .lushr, 0, 0, .null),
  (62, .lconst 1, 0, 0, .long 1),
  (63, .land, 0, 0, .null),
  (64, .lconst 0, 0, 0, .long 0),
  (65, .lcmp, 0, 0, .null),
  (66, .ifCond .eq 31, 97, 0, .null),
  (69, .iload 7, 7, 0, .null),
  (71, .aload_n 0, 0, 0, .null),
  (72, .getfield 28, 4, 5, .null),
  (75, .iload_n 2, 2, 0, .null),
  (76, .iload 8, 8, 0, .null),
  (78, .invokestatic 122, 0, 0, .null),
  (81, .aload_n 0, 0, 0, .null),
  (82, .getfield 24, 3, 5, .null),
  (85, .iload_n 1, 1, 0, .null),
  (86, .iload 4, 4, 0, .null),
  (88, .invokestatic 95, 0, 0, .null),
  (91, .invokestatic 155, 0, 0, .null),
  (94, .ior, 0, 0, .null),
  (95, .istore 7, 7, 0, .null),
  (97, .iinc 8 1, 8, 0, .int 1),
  (100, .goto (-57), 43, 0, .null),
  (103, .iload 7, 7, 0, .null),
  (105, .ifCond .eq 17, 122, 0, .null),
  (108, .aload_n 0, 0, 0, .null),
  (109, .bipush 12, 0, 0, .int 12),
  (111, .iload_n 2, 2, 0, .null),
  (112, .iadd, 0, 0, .null),
  (113, .invokevirtual 171, 0, 0, .null),
  (116, .aload_n 0, 0, 0, .null),
  (117, .bipush 36, 0, 0, .int 36),
  (119, .invokevirtual 171, 0, 0, .null),
  (122, .iconst 1, 0, 0, .int 1),
  (123, .ireturn, 0, 0, .null),
  (124, .nop, 0, 0, .null)]
theorem o_Re_takeStore : xOK y_Re_takeStore xk_Re r_Re_takeStore := ⟨xk_Re_ok, by decide +kernel⟩
def y_Re_placesIn : xMD := (⟨"DataShrinker$Reach", "placesIn", "(II)J"⟩, prog_8_method_25_code, 3, (some .long), { frames := 1, cells := 0, slots := 0, locals := 21 })
def r_Re_placesIn : List xRw := [(0, .aload_n 0, 0, 0, .null),
  (1, .getfield 24, 3, 5, .null),
  (4, .iload_n 1, 1, 0, .null),
  (5, .iload_n 2, 2, 0, .null),
  (6, .invokestatic 95, 0, 0, .null),
  (9, .laload, 0, 0, .null),
  (10, .lreturn, 0, 0, .null),
  (11, .nop, 0, 0, .null)]
theorem o_Re_placesIn : xOK y_Re_placesIn xk_Re r_Re_placesIn := ⟨xk_Re_ok, by decide +kernel⟩
def y_Re_flow : xMD := (⟨"DataShrinker$Reach", "flow", "(IIII)V"⟩, prog_8_method_22_code, 9, none, { frames := 1, cells := 0, slots := 0, locals := 27 })
def r_Re_flow : List xRw := [(0, .aload_n 0, 0, 0, .null),
  (1, .iload_n 2, 2, 0, .null),
  (2, .iload_n 3, 3, 0, .null),
  (3, .invokevirtual 152, 0, 0, .null),
  (6, .istore 5, 5, 0, .null),
  (8, .iload_n 2, 2, 0, .null),
  (9, .iload 5, 5, 0, .null),
  (11, .invokestatic 91, 0, 0, .null),
  (14, .istore 6, 6, 0, .null),
  (16, .iconst 0, 0, 0, .int 0),
  (17, .istore 7, 7, 0, .null),
  (19, .iconst 0, 0, 0, .int 0),
  (20, .istore 8, 8, 0, .null),
  (22, .iload 8, 8, 0, .null),
  (24, .iconst 4, 0, 0, .int 4),
  (25, .if_icmp .ge 72, 97, 0, .null),
  (28, .iload 8, 8, 0, .null),
  (30, .iload 4, 4, 0, .null),
  (32, .if_icmp .ne 30, 62, 0, .null),
  (35, .iload 7, 7, 0, .null),
  (37, .aload_n 0, 0, 0, .null),
  (38, .getfield 24, 3, 5, .null),
  (41, .iload 6, 6, 0, .null),
  (43, .iload 8, 8, 0, .null),
  (45, .invokestatic 95, 0, 0, .null),
  (48, .aload_n 0, 0, 0, .null),
  (49, .getfield 40, 8, 5, .null),
  (52, .iconst 0, 0, 0, .int 0),
  (53, .invokestatic 155, 0, 0, .null),
  (56, .ior, 0, 0, .null),
  (57, .istore 7, 7, 0, .null),
  (59, .goto 32, 91, 0, .null),
  (62, .iload 7, 7, 0, .null),
  (64, .aload_n 0, 0, 0, .null),
  (65, .getfield 24, 3, 5, .null),
  (68, .iload 6, 6, 0, .null),
  (70, .iload 8, 8, 0, .null),
  (72, .invokestatic 95, 0, 0, .null),
  (75, .aload_n 0, 0, 0, .null),
  (76, .getfield 24, 3, 5, .null),
  (79, .iload_n 1, 1, 0, .null),
  (80, .iload 8, 8, 0, .null),
  (82, .invokestatic 95, 0, 0, .null),
  (85, .invokestatic 155, 0, 0, .null),
  (88, .ior, 0, 0, .null),
  (89, .istore 7, 7, 0, .null),
  (91, .iinc 8 1, 8, 0, .int 1),
  (94, .goto (-72), 22, 0, .null),
  (97, .iload 7, 7, 0, .null),
  (99, .ifCond .eq 10, 109, 0, .null),
  (102, .aload_n 0, 0, 0, .null),
  (103, .iload_n 2, 2, 0, .null),
  (104, .iload 5, 5, 0, .null),
  (106, .invokevirtual 159, 0, 0, .null),
  (109, .return_, 0, 0, .null),
  (110, .nop, 0, 0, .null)]
theorem o_Re_flow : xOK y_Re_flow xk_Re r_Re_flow := ⟨xk_Re_ok, by decide +kernel⟩
def y_Re_takeCall : xMD := (⟨"DataShrinker$Reach", "takeCall", "(III)V"⟩, prog_8_method_17_code, 4, none, { frames := 2, cells := 0, slots := 0, locals := 55 })
def r_Re_takeCall : List xRw := [(0, .aload_n 0, 0, 0, .null),
  (1, .getfield 14, 1, 5, .null),
  (4, .iload_n 1, 1, 0, .null),
  (5, .iload_n 3, 3, 0, .null),
  (6, .invokevirtual 224, 0, 0, .null),
  (9, .aload_n 0, 0, 0, .null),
  (10, .iload_n 1, 1, 0, .null),
  (11, .iload_n 2, 2, 0, .null),
  (12, .invokestatic 91, 0, 0, .null),
  (15, .iload_n 3, 3, 0, .null),
  (16, .iconst 0, 0, 0, .int 0),
  (17, .iconst (-1), 0, 0, .int (-1)),
  (18, .invokevirtual 182, 0, 0, .null),
  (21, .aload_n 0, 0, 0, .null),
  (22, .getfield 31, 5, 5, .null),
  (25, .iload_n 3, 3, 0, .null),
  (26, .laload, 0, 0, .null),
  (27, .bipush 40, 0, 0, .int 40),
  (29, .lushr, 0, 0, .null),
  (30, .lconst 1, 0, 0, .long 1),
  (31, .land, 0, 0, .null),
  (32, .lconst 0, 0, 0, .long 0),
  (33, .lcmp, 0, 0, .null),
  (34, .ifCond .eq 18, 52, 0, .null),
  (37, .aload_n 0, 0, 0, .null),
  (38, .iload_n 3, 3, 0, .null),
  (39, .bipush 40, 0, 0, .int 40),
  (41, .invokestatic 91, 0, 0, .null),
  (44, .iload_n 1, 1, 0, .null),
  (45, .iload_n 2, 2, 0, .null),
  (46, .iconst 1, 0, 0, .int 1),
  (47, .iadd, 0, 0, .null),
  (48, .iconst (-1), 0, 0, .int (-1)),
  (49, .invokevirtual 182, 0, 0, .null),
  (52, .return_, 0, 0, .null),
  (53, .nop, 0, 0, .null)]
theorem o_Re_takeCall : xOK y_Re_takeCall xk_Re r_Re_takeCall := ⟨xk_Re_ok, by decide +kernel⟩
def y_Re_takeNought : xMD := (⟨"DataShrinker$Reach", "takeNought", "(IIII)V"⟩, prog_8_method_18_code, 6, none, { frames := 2, cells := 0, slots := 0, locals := 55 })
def r_Re_takeNought : List xRw := [(0, .iload_n 1, 1, 0, .null),
  (1, .iload_n 2, 2, 0, .null),
  (2, .invokestatic 91, 0, 0, .null),
  (5, .istore 5, 5, 0, .null),
  (7, .aload_n 0, 0, 0, .null),
  (8, .getfield 24, 3, 5, .null),
  (11, .iload 5, 5, 0, .null),
  (13, .iload_n 3, 3, 0, .null),
  (14, .invokestatic 95, 0, 0, .null),
  (17, .laload, 0, 0, .null),
  (18, .lconst 1, 0, 0, .long 1),
  (19, .land, 0, 0, .null),
  (20, .lconst 0, 0, 0, .long 0),
  (21, .lcmp, 0, 0, .null),
  (22, .ifCond .eq 25, 47, 0, .null),
  (25, .aload_n 0, 0, 0, .null),
  (26, .getfield 40, 8, 5, .null),
  (29, .iconst 0, 0, 0, .int 0),
  (30, .invokestatic 148, 0, 0, .null),
  (33, .aload_n 0, 0, 0, .null),
  (34, .iload 5, 5, 0, .null),
  (36, .iload_n 1, 1, 0, .null),
  (37, .iload_n 2, 2, 0, .null),
  (38, .iload 4, 4, 0, .null),
  (40, .iadd, 0, 0, .null),
  (41, .iconst 1, 0, 0, .int 1),
  (42, .iadd, 0, 0, .null),
  (43, .iload_n 3, 3, 0, .null),
  (44, .invokevirtual 182, 0, 0, .null),
  (47, .return_, 0, 0, .null),
  (48, .nop, 0, 0, .null)]
theorem o_Re_takeNought : xOK y_Re_takeNought xk_Re r_Re_takeNought := ⟨xk_Re_ok, by decide +kernel⟩
def y_Re_makeRest : xMD := (⟨"DataShrinker$Reach", "makeRest", "(II)Z"⟩, prog_8_method_19_code, 3, (some .boolean), { frames := 1, cells := 0, slots := 0, locals := 26 })
def r_Re_makeRest : List xRw := [(0, .aload_n 0, 0, 0, .null),
  (1, .getfield 24, 3, 5, .null),
  (4, .iload_n 1, 1, 0, .null),
  (5, .iload_n 2, 2, 0, .null),
  (6, .invokestatic 95, 0, 0, .null),
  (9, .aload_n 0, 0, 0, .null),
  (10, .getfield 40, 8, 5, .null),
  (13, .iconst 0, 0, 0, .int 0),
  (14, .iconst 4, 0, 0, .int 4),
  (15, .invokestatic 113, 0, 0, .null),
  (18, .aload_n 0, 0, 0, .null),
  (19, .getfield 40, 8, 5, .null),
  (22, .iconst 0, 0, 0, .int 0),
  (23, .dup2, 0, 0, .null),
  (24, .laload, 0, 0, .null),
  (25, .ldc2_w 227, 0, 0, .long (-2)),
  (28, .land, 0, 0, .null),
  (29, .lastore, 0, 0, .null),
  (30, .aload_n 0, 0, 0, .null),
  (31, .getfield 40, 8, 5, .null),
  (34, .invokestatic 229, 0, 0, .null),
  (37, .ifCond .ne 7, 44, 0, .null),
  (40, .iconst 1, 0, 0, .int 1),
  (41, .goto 4, 45, 0, .null),
  (44, .iconst 0, 0, 0, .int 0),
  (45, .ireturn, 0, 0, .null),
  (46, .nop, 0, 0, .null)]
theorem o_Re_makeRest : xOK y_Re_makeRest xk_Re r_Re_makeRest := ⟨xk_Re_ok, by decide +kernel⟩
def y_Re_takeLoad : xMD := (⟨"DataShrinker$Reach", "takeLoad", "(IIII)Z"⟩, prog_8_method_15_code, 8, (some .boolean), { frames := 2, cells := 0, slots := 0, locals := 43 })
def r_Re_takeLoad : List xRw := [(0, .aload_n 0, 0, 0, .null),
  (1, .iload_n 2, 2, 0, .null),
  (2, .iload 4, 4, 0, .null),
  (4, .invokevirtual 216, 0, 0, .null),
  (7, .aload_n 0, 0, 0, .null),
  (8, .getfield 53, 0, 5, .null),
  (11, .iload_n 3, 3, 0, .null),
  (12, .invokevirtual 220, 0, 0, .null),
  (15, .land, 0, 0, .null),
  (16, .lstore 5, 5, 0, .null),
  (18, .lload 5, 5, 0, .null),
  (20, .lconst 0, 0, 0, .long 0),
  (21, .lcmp, 0, 0, .null),
  (22, .ifCond .ne 5, 27, 0, .null),
  (25, .iconst 0, 0, 0, .int 0),
  (26, .ireturn, 0, 0, .null),
  (27, .aload_n 0, 0, 0, .null),
  (28, .getfield 43, 9, 5, .null),
  (31, .iload_n 3, 3, 0, .null),
  (32, .dup2, 0, 0, .null),
  (33, .laload, 0, 0, .null),
  (34, .lload 5, 5, 0, .null),
  (36, .lor, 0, 0, .null),
  (37, .lastore, 0, 0, .null),
  (38, .aload_n 0, 0, 0, .null),
  (39, .getfield 14, 1, 5, .null),
  (42, .iload_n 1, 1, 0, .null),
  (43, .bipush 12, 0, 0, .int 12),
  (45, .iload_n 3, 3, 0, .null),
  (46, .iadd, 0, 0, .null),
  (47, .invokevirtual 224, 0, 0, .null),
  (50, .aload_n 0, 0, 0, .null),
  (51, .getfield 40, 8, 5, .null),
  (54, .lconst 0, 0, 0, .long 0),
  (55, .invokestatic 106, 0, 0, .null),
  (58, .lload 5, 5, 0, .null),
  (60, .invokestatic 163, 0, 0, .null),
  (63, .istore 7, 7, 0, .null),
  (65, .iload 7, 7, 0, .null),
  (67, .aload_n 0, 0, 0, .null),
  (68, .getfield 53, 0, 5, .null),
  (71, .getfield 125, 0, 4, .null),
  (74, .iload_n 3, 3, 0, .null),
  (75, .iaload, 0, 0, .null),
  (76, .if_icmp .ge 40, 116, 0, .null),
  (79, .lload 5, 5, 0, .null),
  (81, .iload 7, 7, 0, .null),
  (83, .lushr, 0, 0, .null),
  (84, .lconst 1, 0, 0, .long 1),
  (85, .land, 0, 0, .null),
  (86, .lconst 0, 0, 0, .long 0),
  (87, .lcmp, 0, 0, .null),
  (88, .ifCond .eq 22, 110, 0, .null),
  (91, .aload_n 0, 0, 0, .null),
  (92, .getfield 40, 8, 5, .null),
  (95, .iconst 0, 0, 0, .int 0),
  (96, .aload_n 0, 0, 0, .null),
  (97, .getfield 28, 4, 5, .null),
  (100, .iload_n 3, 3, 0, .null),
  (101, .iload 7, 7, 0, .null),
  (103, .invokestatic 122, 0, 0, .null),
  (106, .invokestatic 155, 0, 0, .null),
  (109, .pop, 0, 0, .null),
  (110, .iinc 7 1, 7, 0, .int 1),
  (113, .goto (-48), 65, 0, .null),
  (116, .iconst 1, 0, 0, .int 1),
  (117, .ireturn, 0, 0, .null),
  (118, .nop, 0, 0, .null)]
theorem o_Re_takeLoad : xOK y_Re_takeLoad xk_Re r_Re_takeLoad := ⟨xk_Re_ok, by decide +kernel⟩
def y_Re_takeFollow : xMD := (⟨"DataShrinker$Reach", "takeFollow", "(IIII)Z"⟩, prog_8_method_21_code, 9, (some .boolean), { frames := 2, cells := 0, slots := 0, locals := 43 })
def r_Re_takeFollow : List xRw := [(0, .aload_n 0, 0, 0, .null),
  (1, .iload_n 2, 2, 0, .null),
  (2, .iload 4, 4, 0, .null),
  (4, .invokevirtual 216, 0, 0, .null),
  (7, .aload_n 0, 0, 0, .null),
  (8, .getfield 53, 0, 5, .null),
  (11, .getfield 237, 6, 4, .null),
  (14, .iload_n 3, 3, 0, .null),
  (15, .laload, 0, 0, .null),
  (16, .land, 0, 0, .null),
  (17, .lstore 5, 5, 0, .null),
  (19, .lload 5, 5, 0, .null),
  (21, .lconst 0, 0, 0, .long 0),
  (22, .lcmp, 0, 0, .null),
  (23, .ifCond .ne 5, 28, 0, .null),
  (26, .iconst 0, 0, 0, .int 0),
  (27, .ireturn, 0, 0, .null),
  (28, .aload_n 0, 0, 0, .null),
  (29, .getfield 43, 9, 5, .null),
  (32, .iload_n 3, 3, 0, .null),
  (33, .dup2, 0, 0, .null),
  (34, .laload, 0, 0, .null),
  (35, .lload 5, 5, 0, .null),
  (37, .lor, 0, 0, .null),
  (38, .lastore, 0, 0, .null),
  (39, .aload_n 0, 0, 0, .null),
  (40, .getfield 14, 1, 5, .null),
  (43, .iload_n 1, 1, 0, .null),
  (44, .bipush 12, 0, 0, .int 12),
  (46, .iload_n 3, 3, 0, .null),
  (47, .iadd, 0, 0, .null),
  (48, .invokevirtual 224, 0, 0, .null),
  (51, .aload_n 0, 0, 0, .null),
  (52, .getfield 40, 8, 5, .null),
  (55, .lconst 0, 0, 0, .long 0),
  (56, .invokestatic 106, 0, 0, .null),
  (59, .lload 5, 5, 0, .null),
  (61, .invokestatic 163, 0, 0, .null),
  (64, .istore 7, 7, 0, .null),
  (66, .iload 7, 7, 0, .null),
  (68, .aload_n 0, 0, 0, .null),
  (69, .getfield 53, 0, 5, .null),
  (72, .getfield 125, 0, 4, .null),
  (75, .iload_n 3, 3, 0, .null),
  (76, .iaload, 0, 0, .null),
  (77, .if_icmp .ge 84, 161, 0, .null),
  (80, .lload 5, 5, 0, .null),
  (82, .iload 7, 7, 0, .null),
  (84, .lushr, 0, 0, .null),
  (85, .lconst 1, 0, 0, .long 1),
  (86, .land, 0, 0, .null),
  (87, .lconst 0, 0, 0, .long 0),
  (88, .lcmp, 0, 0, .null),
  (89, .ifCond .eq 66, 155, 0, .null),
  (92, .aload_n 0, 0, 0, .null),
  (93, .getfield 53, 0, 5, .null),
  (96, .getfield 240, 5, 4, .null),
  (99, .iload_n 3, 3, 0, .null),
  (100, .bipush 64, 0, 0, .int 64),
  (102, .imul, 0, 0, .null),
  (103, .iload 7, 7, 0, .null),
  (105, .iadd, 0, 0, .null),
  (106, .iaload, 0, 0, .null),
  (107, .istore 8, 8, 0, .null),
  (109, .aload_n 0, 0, 0, .null),
  (110, .getfield 43, 9, 5, .null),
  (113, .iload 8, 8, 0, .null),
  (115, .dup2, 0, 0, .null),
  (116, .laload, 0, 0, .null),
  (117, .lconst 1, 0, 0, .long 1),
  (118, .lor, 0, 0, .null),
  (119, .lastore, 0, 0, .null),
  (120, .aload_n 0, 0, 0, .null),
  (121, .getfield 14, 1, 5, .null),
  (124, .bipush 12, 0, 0, .int 12),
  (126, .iload_n 3, 3, 0, .null),
  (127, .iadd, 0, 0, .null),
  (128, .bipush 12, 0, 0, .int 12),
  (130, .iload 8, 8, 0, .null),
  (132, .iadd, 0, 0, .null),
  (133, .invokevirtual 224, 0, 0, .null),
  (136, .aload_n 0, 0, 0, .null),
  (137, .getfield 40, 8, 5, .null),
  (140, .iconst 0, 0, 0, .int 0),
  (141, .aload_n 0, 0, 0, .null),
  (142, .getfield 28, 4, 5, .null),
  (145, .iload 8, 8, 0, .null),
  (147, .iconst 0, 0, 0, .int 0),
  (148, .invokestatic 122, 0, 0, .null),
  (151, .invokestatic 155, 0, 0, .null),
  (154, .pop, 0, 0, .null),
  (155, .iinc 7 1, 7, 0, .int 1),
  (158, .goto (-92), 66, 0, .null),
  (161, .iconst 1, 0, 0, .int 1),
  (162, .ireturn, 0, 0, .null),
  (163, .nop, 0, 0, .null)]
theorem o_Re_takeFollow : xOK y_Re_takeFollow xk_Re r_Re_takeFollow := ⟨xk_Re_ok, by decide +kernel⟩
def y_Re_makeSimple : xMD := (⟨"DataShrinker$Reach", "makeSimple", "(II)V"⟩, prog_8_method_14_code, 5, none, { frames := 3, cells := 0, slots := 0, locals := 67 })
def r_Re_makeSimple : List xRw := [(0, .aload_n 0, 0, 0, .null),
  (1, .getfield 53, 0, 5, .null),
  (4, .getfield 145, 10, 4, .null),
  (7, .iload_n 1, 1, 0, .null),
  (8, .iaload, 0, 0, .null),
  (9, .istore_n 3, 3, 0, .null),
  (10, .iload_n 2, 2, 0, .null),
  (11, .aload_n 0, 0, 0, .null),
  (12, .getfield 53, 0, 5, .null),
  (15, .getfield 142, 9, 4, .null),
  (18, .iload_n 1, 1, 0, .null),
  (19, .iaload, 0, 0, .null),
  (20, .invokestatic 95, 0, 0, .null),
  (23, .istore 4, 4, 0, .null),
  (25, .aload_n 0, 0, 0, .null),
  (26, .getfield 53, 0, 5, .null),
  (29, .getfield 139, 8, 4, .null),
  (32, .iload_n 1, 1, 0, .null),
  (33, .iaload, 0, 0, .null),
  (34, .lookupswitch 104 #[(0, 42), (1, 53), (2, 70), (10, 87)], 0, 0, .null),
  (76, .aload_n 0, 0, 0, .null),
  (77, .getfield 40, 8, 5, .null),
  (80, .iload_n 3, 3, 0, .null),
  (81, .invokestatic 148, 0, 0, .null),
  (84, .goto 64, 148, 0, .null),
  (87, .aload_n 0, 0, 0, .null),
  (88, .getfield 40, 8, 5, .null),
  (91, .aload_n 0, 0, 0, .null),
  (92, .getfield 24, 3, 5, .null),
  (95, .iload 4, 4, 0, .null),
  (97, .iload_n 3, 3, 0, .null),
  (98, .invokestatic 206, 0, 0, .null),
  (101, .goto 47, 148, 0, .null),
  (104, .aload_n 0, 0, 0, .null),
  (105, .getfield 40, 8, 5, .null),
  (108, .aload_n 0, 0, 0, .null),
  (109, .getfield 24, 3, 5, .null),
  (112, .iload 4, 4, 0, .null),
  (114, .iload_n 3, 3, 0, .null),
  (115, .invokestatic 210, 0, 0, .null),
  (118, .goto 30, 148, 0, .null),
  (121, .aload_n 0, 0, 0, .null),
  (122, .iload_n 3, 3, 0, .null),
  (123, .aload_n 0, 0, 0, .null),
  (124, .getfield 53, 0, 5, .null),
  (127, .getfield 175, 11, 4, .null),
  (130, .iload_n 1, 1, 0, .null),
  (131, .iaload, 0, 0, .null),
  (132, .invokevirtual 213, 0, 0, .null),
  (135, .goto 13, 148, 0, .null),
  (138, .aload_n 0, 0, 0, .null),
  (139, .getfield 40, 8, 5, .null),
  (142, .ldc2_w 166, 0, 0, .long (-1)),
  (145, .invokestatic 106, 0, 0, .null),
  (148, .return_, 0, 0, .null),
  (149, .nop, 0, 0, .null)]
theorem o_Re_makeSimple : xOK y_Re_makeSimple xk_Re r_Re_makeSimple := ⟨xk_Re_ok, by decide +kernel⟩
def y_Re_takeSame : xMD := (⟨"DataShrinker$Reach", "takeSame", "(II)V"⟩, prog_8_method_20_code, 3, none, { frames := 2, cells := 0, slots := 0, locals := 45 })
def r_Re_takeSame : List xRw := [(0, .iload_n 1, 1, 0, .null),
  (1, .iload_n 2, 2, 0, .null),
  (2, .if_icmp .eq 17, 19, 0, .null),
  (5, .aload_n 0, 0, 0, .null),
  (6, .getfield 50, 11, 5, .null),
  (9, .iload_n 1, 1, 0, .null),
  (10, .iconst 1, 0, 0, .int 1),
  (11, .bastore, 0, 0, .null),
  (12, .aload_n 0, 0, 0, .null),
  (13, .getfield 50, 11, 5, .null),
  (16, .iload_n 2, 2, 0, .null),
  (17, .iconst 1, 0, 0, .int 1),
  (18, .bastore, 0, 0, .null),
  (19, .aload_n 0, 0, 0, .null),
  (20, .getfield 40, 8, 5, .null),
  (23, .iload_n 1, 1, 0, .null),
  (24, .iload_n 2, 2, 0, .null),
  (25, .if_icmp .ne 7, 32, 0, .null),
  (28, .iconst 1, 0, 0, .int 1),
  (29, .goto 4, 33, 0, .null),
  (32, .iconst 0, 0, 0, .int 0),
  (33, .invokestatic 233, 0, 0, .null),
  (36, .invokestatic 148, 0, 0, .null),
  (39, .return_, 0, 0, .null),
  (40, .nop, 0, 0, .null)]
theorem o_Re_takeSame : xOK y_Re_takeSame xk_Re r_Re_takeSame := ⟨xk_Re_ok, by decide +kernel⟩
def y_La_work : xMD := (⟨"DataShrinker$Layout", "work", "()V"⟩, prog_4_method_2_code, 1, none, { frames := 5, cells := 0, slots := 0, locals := 126 })
def r_La_work : List xRw := [(0, .aload_n 0, 0, 0, .null),
  (1, .invokevirtual 55, 0, 0, .null),
  (4, .aload_n 0, 0, 0, .null),
  (5, .invokevirtual 58, 0, 0, .null),
  (8, .aload_n 0, 0, 0, .null),
  (9, .invokevirtual 61, 0, 0, .null),
  (12, .aload_n 0, 0, 0, .null),
  (13, .invokevirtual 64, 0, 0, .null),
  (16, .aload_n 0, 0, 0, .null),
  (17, .invokevirtual 67, 0, 0, .null),
  (20, .aload_n 0, 0, 0, .null),
  (21, .invokevirtual 70, 0, 0, .null),
  (24, .aload_n 0, 0, 0, .null),
  (25, .invokevirtual 73, 0, 0, .null),
  (28, .aload_n 0, 0, 0, .null),
  (29, .invokevirtual 76, 0, 0, .null),
  (32, .aload_n 0, 0, 0, .null),
  (33, .invokevirtual 79, 0, 0, .null),
  (36, .aload_n 0, 0, 0, .null),
  (37, .invokevirtual 82, 0, 0, .null),
  (40, .return_, 0, 0, .null),
  (41, .nop, 0, 0, .null)]
theorem o_La_work : xOK y_La_work xk_La r_La_work := ⟨xk_La_ok, by decide +kernel⟩
def y_La_begin : xMD := (⟨"DataShrinker$Layout", "begin", "()V"⟩, prog_4_method_8_code, 1, none, { frames := 1, cells := 0, slots := 0, locals := 26 })
def r_La_begin : List xRw := [(0, .aload_n 0, 0, 0, .null),
  (1, .getfield 47, 0, 2, .null),
  (4, .getfield 93, 0, 4, .null),
  (7, .iconst 0, 0, 0, .int 0),
  (8, .aload_n 0, 0, 0, .null),
  (9, .getfield 18, 3, 2, .null),
  (12, .iconst 0, 0, 0, .int 0),
  (13, .bipush 24, 0, 0, .int 24),
  (15, .invokestatic 96, 0, 0, .null),
  (18, .aload_n 0, 0, 0, .null),
  (19, .getfield 47, 0, 2, .null),
  (22, .getfield 102, 1, 4, .null),
  (25, .iconst 0, 0, 0, .int 0),
  (26, .aload_n 0, 0, 0, .null),
  (27, .getfield 22, 4, 2, .null),
  (30, .iconst 0, 0, 0, .int 0),
  (31, .bipush 24, 0, 0, .int 24),
  (33, .invokestatic 96, 0, 0, .null),
  (36, .aload_n 0, 0, 0, .null),
  (37, .getfield 32, 7, 2, .null),
  (40, .iconst (-1), 0, 0, .int (-1)),
  (41, .invokestatic 103, 0, 0, .null),
  (44, .aload_n 0, 0, 0, .null),
  (45, .getfield 35, 8, 2, .null),
  (48, .iconst (-1), 0, 0, .int (-1)),
  (49, .invokestatic 103, 0, 0, .null),
  (52, .aload_n 0, 0, 0, .null),
  (53, .getfield 38, 9, 2, .null),
  (56, .iconst (-1), 0, 0, .int (-1)),
  (57, .invokestatic 103, 0, 0, .null),
  (60, .aload_n 0, 0, 0, .null),
  (61, .getfield 44, 12, 2, .null),
  (64, .iconst 0, 0, 0, .int 0),
  (65, .invokestatic 103, 0, 0, .null),
  (68, .return_, 0, 0, .null),
  (69, .nop, 0, 0, .null)]
theorem o_La_begin : xOK y_La_begin xk_La r_La_begin := ⟨xk_La_ok, by decide +kernel⟩
def y_La_keepItems : xMD := (⟨"DataShrinker$Layout", "keepItems", "()V"⟩, prog_4_method_9_code, 2, none, { frames := 0, cells := 0, slots := 0, locals := 0 })
def r_La_keepItems : List xRw := [(0, .iconst 0, 0, 0, .int 0),
  (1, .istore_n 1, 1, 0, .null),
  (2, .iload_n 1, 1, 0, .null),
  (3, .bipush 24, 0, 0, .int 24),
  (5, .if_icmp .ge 55, 60, 0, .null),
  (8, .aload_n 0, 0, 0, .null),
  (9, .getfield 25, 5, 2, .null),
  (12, .iload_n 1, 1, 0, .null),
  (13, .aload_n 0, 0, 0, .null),
  (14, .getfield 18, 3, 2, .null),
  (17, .iload_n 1, 1, 0, .null),
  (18, .iaload, 0, 0, .null),
  (19, .ifCond .le 33, 52, 0, .null),
  (22, .aload_n 0, 0, 0, .null),
  (23, .getfield 47, 0, 2, .null),
  (26, .getfield 109, 3, 4, .null),
  (29, .iload_n 1, 1, 0, .null),
  (30, .baload, 0, 0, .null),
  (31, .ifCond .ne 17, 48, 0, .null),
  (34, .aload_n 0, 0, 0, .null),
  (35, .getfield 51, 1, 2, .null),
  (38, .getfield 112, 9, 5, .null),
  (41, .iload_n 1, 1, 0, .null),
  (42, .laload, 0, 0, .null),
  (43, .lconst 0, 0, 0, .long 0),
  (44, .lcmp, 0, 0, .null),
  (45, .ifCond .eq 7, 52, 0, .null),
  (48, .iconst 1, 0, 0, .int 1),
  (49, .goto 4, 53, 0, .null),
  (52, .iconst 0, 0, 0, .int 0),
  (53, .bastore, 0, 0, .null),
  (54, .iinc 1 1, 1, 0, .int 1),
  (57, .goto (-55), 2, 0, .null),
  (60, .return_, 0, 0, .null),
  (61, .nop, 0, 0, .null)]
theorem o_La_keepItems : xOK y_La_keepItems xk_La r_La_keepItems := ⟨xk_La_ok, by decide +kernel⟩
def y_La_keepGroups : xMD := (⟨"DataShrinker$Layout", "keepGroups", "()V"⟩, prog_4_method_10_code, 4, none, { frames := 0, cells := 0, slots := 0, locals := 0 })
def r_La_keepGroups : List xRw := [(0, .iconst 0, 0, 0, .int 0),
  (1, .istore_n 1, 1, 0, .null),
  (2, .iconst 0, 0, 0, .int 0),
  (3, .istore_n 2, 2, 0, .null),
  (4, .iload_n 2, 2, 0, .null),
  (5, .bipush 24, 0, 0, .int 24),
  (7, .if_icmp .ge 32, 39, 0, .null),
  (10, .aload_n 0, 0, 0, .null),
  (11, .getfield 25, 5, 2, .null),
  (14, .iload_n 2, 2, 0, .null),
  (15, .baload, 0, 0, .null),
  (16, .ifCond .eq 17, 33, 0, .null),
  (19, .iload_n 1, 1, 0, .null),
  (20, .iconst 1, 0, 0, .int 1),
  (21, .aload_n 0, 0, 0, .null),
  (22, .getfield 47, 0, 2, .null),
  (25, .getfield 118, 2, 4, .null),
  (28, .iload_n 2, 2, 0, .null),
  (29, .iaload, 0, 0, .null),
  (30, .ishl, 0, 0, .null),
  (31, .ior, 0, 0, .null),
  (32, .istore_n 1, 1, 0, .null),
  (33, .iinc 2 1, 2, 0, .int 1),
  (36, .goto (-32), 4, 0, .null),
  (39, .iconst 0, 0, 0, .int 0),
  (40, .istore_n 2, 2, 0, .null),
  (41, .iload_n 2, 2, 0, .null),
  (42, .bipush 24, 0, 0, .int 24),
  (44, .if_icmp .ge 47, 91, 0, .null),
  (47, .aload_n 0, 0, 0, .null),
  (48, .getfield 47, 0, 2, .null),
  (51, .getfield 118, 2, 4, .null),
  (54, .iload_n 2, 2, 0, .null),
  (55, .iaload, 0, 0, .null),
  (56, .istore_n 3, 3, 0, .null),
  (57, .aload_n 0, 0, 0, .null),
  (58, .getfield 18, 3, 2, .null),
  (61, .iload_n 2, 2, 0, .null),
  (62, .iaload, 0, 0, .null),
  (63, .ifCond .le 22, 85, 0, .null),
  (66, .iload_n 3, 3, 0, .null),
  (67, .ifCond .le 18, 85, 0, .null),
  (70, .iload_n 1, 1, 0, .null),
  (71, .iload_n 3, 3, 0, .null),
  (72, .iushr, 0, 0, .null),
  (73, .iconst 1, 0, 0, .int 1),
  (74, .iand, 0, 0, .null),
  (75, .ifCond .eq 10, 85, 0, .null),
  (78, .aload_n 0, 0, 0, .null),
  (79, .getfield 25, 5, 2, .null),
  (82, .iload_n 2, 2, 0, .null),
  (83, .iconst 1, 0, 0, .int 1),
  (84, .bastore, 0, 0, .null),
  (85, .iinc 2 1, 2, 0, .int 1),
  (88, .goto (-47), 41, 0, .null),
  (91, .return_, 0, 0, .null),
  (92, .nop, 0, 0, .null)]
theorem o_La_keepGroups : xOK y_La_keepGroups xk_La r_La_keepGroups := ⟨xk_La_ok, by decide +kernel⟩
def y_La_findStill : xMD := (⟨"DataShrinker$Layout", "findStill", "()V"⟩, prog_4_method_11_code, 3, none, { frames := 0, cells := 0, slots := 0, locals := 0 })
def r_La_findStill : List xRw := [(0, .iconst 0, 0, 0, .int 0),
  (1, .istore_n 1, 1, 0, .null),
  (2, .iload_n 1, 1, 0, .null),
  (3, .bipush 24, 0, 0, .int 24),
  (5, .if_icmp .ge 77, 82, 0, .null),
  (8, .aload_n 0, 0, 0, .null),
  (9, .getfield 51, 1, 2, .null),
  (12, .getfield 121, 10, 5, .null),
  (15, .iload_n 1, 1, 0, .null),
  (16, .baload, 0, 0, .null),
  (17, .ifCond .ne 17, 34, 0, .null),
  (20, .aload_n 0, 0, 0, .null),
  (21, .getfield 47, 0, 2, .null),
  (24, .getfield 124, 6, 4, .null),
  (27, .iload_n 1, 1, 0, .null),
  (28, .laload, 0, 0, .null),
  (29, .lconst 0, 0, 0, .long 0),
  (30, .lcmp, 0, 0, .null),
  (31, .ifCond .eq 7, 38, 0, .null),
  (34, .iconst 1, 0, 0, .int 1),
  (35, .goto 4, 39, 0, .null),
  (38, .iconst 0, 0, 0, .int 0),
  (39, .istore_n 2, 2, 0, .null),
  (40, .aload_n 0, 0, 0, .null),
  (41, .getfield 29, 6, 2, .null),
  (44, .iload_n 1, 1, 0, .null),
  (45, .aload_n 0, 0, 0, .null),
  (46, .getfield 25, 5, 2, .null),
  (49, .iload_n 1, 1, 0, .null),
  (50, .baload, 0, 0, .null),
  (51, .ifCond .eq 23, 74, 0, .null),
  (54, .iload_n 2, 2, 0, .null),
  (55, .ifCond .ne 19, 74, 0, .null),
  (58, .aload_n 0, 0, 0, .null),
  (59, .getfield 51, 1, 2, .null),
  (62, .getfield 127, 11, 5, .null),
  (65, .iload_n 1, 1, 0, .null),
  (66, .baload, 0, 0, .null),
  (67, .ifCond .ne 7, 74, 0, .null),
  (70, .iconst 1, 0, 0, .int 1),
  (71, .goto 4, 75, 0, .null),
  (74, .iconst 0, 0, 0, .int 0),
  (75, .bastore, 0, 0, .null),
  (76, .iinc 1 1, 1, 0, .int 1),
  (79, .goto (-77), 2, 0, .null),
  (82, .return_, 0, 0, .null),
  (83, .nop, 0, 0, .null)]
theorem o_La_findStill : xOK y_La_findStill xk_La r_La_findStill := ⟨xk_La_ok, by decide +kernel⟩
def y_La_joinAlike : xMD := (⟨"DataShrinker$Layout", "joinAlike", "()V"⟩, prog_4_method_13_code, 3, none, { frames := 1, cells := 0, slots := 0, locals := 25 })
def r_La_joinAlike : List xRw := [(0, .iconst 0, 0, 0, .int 0),
  (1, .istore_n 1, 1, 0, .null),
  (2, .iload_n 1, 1, 0, .null),
  (3, .bipush 24, 0, 0, .int 24),
  (5, .if_icmp .ge 93, 98, 0, .null),
  (8, .iload_n 1, 1, 0, .null),
  (9, .iconst 1, 0, 0, .int 1),
  (10, .iadd, 0, 0, .null),
  (11, .istore_n 2, 2, 0, .null),
  (12, .iload_n 2, 2, 0, .null),
  (13, .bipush 24, 0, 0, .int 24),
  (15, .if_icmp .ge 77, 92, 0, .null),
  (18, .aload_n 0, 0, 0, .null),
  (19, .iload_n 1, 1, 0, .null),
  (20, .invokevirtual 130, 0, 0, .null),
  (23, .ifCond .eq 69, 92, 0, .null),
  (26, .aload_n 0, 0, 0, .null),
  (27, .iload_n 2, 2, 0, .null),
  (28, .invokevirtual 130, 0, 0, .null),
  (31, .ifCond .eq 55, 86, 0, .null),
  (34, .aload_n 0, 0, 0, .null),
  (35, .getfield 18, 3, 2, .null),
  (38, .iload_n 2, 2, 0, .null),
  (39, .iaload, 0, 0, .null),
  (40, .aload_n 0, 0, 0, .null),
  (41, .getfield 18, 3, 2, .null),
  (44, .iload_n 1, 1, 0, .null),
  (45, .iaload, 0, 0, .null),
  (46, .if_icmp .ne 40, 86, 0, .null),
  (49, .aload_n 0, 0, 0, .null),
  (50, .iload_n 1, 1, 0, .null),
  (51, .iload_n 2, 2, 0, .null),
  (52, .invokevirtual 133, 0, 0, .null),
  (55, .ifCond .eq 31, 86, 0, .null),
  (58, .aload_n 0, 0, 0, .null),
  (59, .getfield 32, 7, 2, .null),
  (62, .iload_n 2, 2, 0, .null),
  (63, .iload_n 1, 1, 0, .null),
  (64, .iastore, 0, 0, .null),
  (65, .aload_n 0, 0, 0, .null),
  (66, .getfield 22, 4, 2, .null),
  (69, .iload_n 1, 1, 0, .null),
  (70, .aload_n 0, 0, 0, .null),
  (71, .getfield 22, 4, 2, .null),
  (74, .iload_n 1, 1, 0, .null),
  (75, .iaload, 0, 0, .null),
  (76, .aload_n 0, 0, 0, .null),
  (77, .getfield 22, 4, 2, .null),
  (80, .iload_n 2, 2, 0, .null),
  (81, .iaload, 0, 0, .null),
  (82, .invokestatic 137, 0, 0, .null),
  (85, .iastore, 0, 0, .null),
  (86, .iinc 2 1, 2, 0, .int 1),
  (89, .goto (-77), 12, 0, .null),
  (92, .iinc 1 1, 1, 0, .int 1),
  (95, .goto (-93), 2, 0, .null),
  (98, .return_, 0, 0, .null),
  (99, .nop, 0, 0, .null)]
theorem o_La_joinAlike : xOK y_La_joinAlike xk_La r_La_joinAlike := ⟨xk_La_ok, by decide +kernel⟩
def y_La_standsStill : xMD := (⟨"DataShrinker$Layout", "standsStill", "(I)Z"⟩, prog_4_method_12_code, 2, (some .boolean), { frames := 0, cells := 0, slots := 0, locals := 0 })
def r_La_standsStill : List xRw := [(0, .aload_n 0, 0, 0, .null),
  (1, .getfield 29, 6, 2, .null),
  (4, .iload_n 1, 1, 0, .null),
  (5, .baload, 0, 0, .null),
  (6, .ifCond .eq 17, 23, 0, .null),
  (9, .aload_n 0, 0, 0, .null),
  (10, .getfield 32, 7, 2, .null),
  (13, .iload_n 1, 1, 0, .null),
  (14, .iaload, 0, 0, .null),
  (15, .iconst (-1), 0, 0, .int (-1)),
  (16, .if_icmp .ne 7, 23, 0, .null),
  (19, .iconst 1, 0, 0, .int 1),
  (20, .goto 4, 24, 0, .null),
  (23, .iconst 0, 0, 0, .int 0),
  (24, .ireturn, 0, 0, .null),
  (25, .nop, 0, 0, .null)]
theorem o_La_standsStill : xOK y_La_standsStill xk_La r_La_standsStill := ⟨xk_La_ok, by decide +kernel⟩
def y_La_endsWith : xMD := (⟨"DataShrinker$Layout", "endsWith", "(II)Z"⟩, prog_4_method_14_code, 6, (some .boolean), { frames := 0, cells := 0, slots := 0, locals := 0 })
def r_La_endsWith : List xRw := [(0, .aload_n 0, 0, 0, .null),
  (1, .getfield 18, 3, 2, .null),
  (4, .iload_n 1, 1, 0, .null),
  (5, .iaload, 0, 0, .null),
  (6, .aload_n 0, 0, 0, .null),
  (7, .getfield 18, 3, 2, .null),
  (10, .iload_n 2, 2, 0, .null),
  (11, .iaload, 0, 0, .null),
  (12, .isub, 0, 0, .null),
  (13, .istore_n 3, 3, 0, .null),
  (14, .iload_n 3, 3, 0, .null),
  (15, .ifCond .ge 5, 20, 0, .null),
  (18, .iconst 0, 0, 0, .int 0),
  (19, .ireturn, 0, 0, .null),
  (20, .iconst 0, 0, 0, .int 0),
  (21, .istore 4, 4, 0, .null),
  (23, .iload 4, 4, 0, .null),
  (25, .aload_n 0, 0, 0, .null),
  (26, .getfield 18, 3, 2, .null),
  (29, .iload_n 2, 2, 0, .null),
  (30, .iaload, 0, 0, .null),
  (31, .if_icmp .ge 50, 81, 0, .null),
  (34, .aload_n 0, 0, 0, .null),
  (35, .getfield 47, 0, 2, .null),
  (38, .getfield 143, 4, 4, .null),
  (41, .iload_n 1, 1, 0, .null),
  (42, .bipush 64, 0, 0, .int 64),
  (44, .imul, 0, 0, .null),
  (45, .iload_n 3, 3, 0, .null),
  (46, .iadd, 0, 0, .null),
  (47, .iload 4, 4, 0, .null),
  (49, .iadd, 0, 0, .null),
  (50, .iaload, 0, 0, .null),
  (51, .istore 5, 5, 0, .null),
  (53, .iload 5, 5, 0, .null),
  (55, .aload_n 0, 0, 0, .null),
  (56, .getfield 47, 0, 2, .null),
  (59, .getfield 143, 4, 4, .null),
  (62, .iload_n 2, 2, 0, .null),
  (63, .bipush 64, 0, 0, .int 64),
  (65, .imul, 0, 0, .null),
  (66, .iload 4, 4, 0, .null),
  (68, .iadd, 0, 0, .null),
  (69, .iaload, 0, 0, .null),
  (70, .if_icmp .eq 5, 75, 0, .null),
  (73, .iconst 0, 0, 0, .int 0),
  (74, .ireturn, 0, 0, .null),
  (75, .iinc 4 1, 4, 0, .int 1),
  (78, .goto (-55), 23, 0, .null),
  (81, .iconst 1, 0, 0, .int 1),
  (82, .ireturn, 0, 0, .null),
  (83, .nop, 0, 0, .null)]
theorem o_La_endsWith : xOK y_La_endsWith xk_La r_La_endsWith := ⟨xk_La_ok, by decide +kernel⟩
def y_La_layTails : xMD := (⟨"DataShrinker$Layout", "layTails", "()V"⟩, prog_4_method_15_code, 2, none, { frames := 2, cells := 0, slots := 0, locals := 48 })
def r_La_layTails : List xRw := [(0, .iconst 0, 0, 0, .int 0),
  (1, .istore_n 1, 1, 0, .null),
  (2, .iload_n 1, 1, 0, .null),
  (3, .bipush 24, 0, 0, .int 24),
  (5, .if_icmp .ge 36, 41, 0, .null),
  (8, .aload_n 0, 0, 0, .null),
  (9, .iload_n 1, 1, 0, .null),
  (10, .invokevirtual 130, 0, 0, .null),
  (13, .ifCond .eq 22, 35, 0, .null),
  (16, .aload_n 0, 0, 0, .null),
  (17, .iload_n 1, 1, 0, .null),
  (18, .invokevirtual 144, 0, 0, .null),
  (21, .ifCond .ne 14, 35, 0, .null),
  (24, .aload_n 0, 0, 0, .null),
  (25, .getfield 35, 8, 2, .null),
  (28, .iload_n 1, 1, 0, .null),
  (29, .aload_n 0, 0, 0, .null),
  (30, .iload_n 1, 1, 0, .null),
  (31, .invokevirtual 147, 0, 0, .null),
  (34, .iastore, 0, 0, .null),
  (35, .iinc 1 1, 1, 0, .int 1),
  (38, .goto (-36), 2, 0, .null),
  (41, .return_, 0, 0, .null),
  (42, .nop, 0, 0, .null)]
theorem o_La_layTails : xOK y_La_layTails xk_La r_La_layTails := ⟨xk_La_ok, by decide +kernel⟩
def y_La_holdsAny : xMD := (⟨"DataShrinker$Layout", "holdsAny", "(I)Z"⟩, prog_4_method_16_code, 3, (some .boolean), { frames := 0, cells := 0, slots := 0, locals := 0 })
def r_La_holdsAny : List xRw := [(0, .iconst 0, 0, 0, .int 0),
  (1, .istore_n 2, 2, 0, .null),
  (2, .iload_n 2, 2, 0, .null),
  (3, .bipush 24, 0, 0, .int 24),
  (5, .if_icmp .ge 21, 26, 0, .null),
  (8, .aload_n 0, 0, 0, .null),
  (9, .getfield 35, 8, 2, .null),
  (12, .iload_n 2, 2, 0, .null),
  (13, .iaload, 0, 0, .null),
  (14, .iload_n 1, 1, 0, .null),
  (15, .if_icmp .ne 5, 20, 0, .null),
  (18, .iconst 1, 0, 0, .int 1),
  (19, .ireturn, 0, 0, .null),
  (20, .iinc 2 1, 2, 0, .int 1),
  (23, .goto (-21), 2, 0, .null),
  (26, .iconst 0, 0, 0, .int 0),
  (27, .ireturn, 0, 0, .null),
  (28, .nop, 0, 0, .null)]
theorem o_La_holdsAny : xOK y_La_holdsAny xk_La r_La_holdsAny := ⟨xk_La_ok, by decide +kernel⟩
def y_La_findOuter : xMD := (⟨"DataShrinker$Layout", "findOuter", "(I)I"⟩, prog_4_method_17_code, 4, (some .int), { frames := 1, cells := 0, slots := 0, locals := 25 })
def r_La_findOuter : List xRw := [(0, .iconst 0, 0, 0, .int 0),
  (1, .istore_n 2, 2, 0, .null),
  (2, .iload_n 2, 2, 0, .null),
  (3, .bipush 24, 0, 0, .int 24),
  (5, .if_icmp .ge 72, 77, 0, .null),
  (8, .aload_n 0, 0, 0, .null),
  (9, .iload_n 2, 2, 0, .null),
  (10, .invokevirtual 130, 0, 0, .null),
  (13, .ifCond .eq 32, 45, 0, .null),
  (16, .aload_n 0, 0, 0, .null),
  (17, .getfield 35, 8, 2, .null),
  (20, .iload_n 2, 2, 0, .null),
  (21, .iaload, 0, 0, .null),
  (22, .iconst (-1), 0, 0, .int (-1)),
  (23, .if_icmp .ne 22, 45, 0, .null),
  (26, .aload_n 0, 0, 0, .null),
  (27, .getfield 18, 3, 2, .null),
  (30, .iload_n 2, 2, 0, .null),
  (31, .iaload, 0, 0, .null),
  (32, .aload_n 0, 0, 0, .null),
  (33, .getfield 18, 3, 2, .null),
  (36, .iload_n 1, 1, 0, .null),
  (37, .iaload, 0, 0, .null),
  (38, .if_icmp .le 7, 45, 0, .null),
  (41, .iconst 1, 0, 0, .int 1),
  (42, .goto 4, 46, 0, .null),
  (45, .iconst 0, 0, 0, .int 0),
  (46, .istore_n 3, 3, 0, .null),
  (47, .iload_n 3, 3, 0, .null),
  (48, .ifCond .eq 23, 71, 0, .null),
  (51, .aload_n 0, 0, 0, .null),
  (52, .iload_n 2, 2, 0, .null),
  (53, .iload_n 1, 1, 0, .null),
  (54, .invokevirtual 151, 0, 0, .null),
  (57, .ifCond .eq 14, 71, 0, .null),
  (60, .aload_n 0, 0, 0, .null),
  (61, .iload_n 2, 2, 0, .null),
  (62, .iload_n 1, 1, 0, .null),
  (63, .invokevirtual 133, 0, 0, .null),
  (66, .ifCond .eq 5, 71, 0, .null),
  (69, .iload_n 2, 2, 0, .null),
  (70, .ireturn, 0, 0, .null),
  (71, .iinc 2 1, 2, 0, .int 1),
  (74, .goto (-72), 2, 0, .null),
  (77, .iconst (-1), 0, 0, .int (-1)),
  (78, .ireturn, 0, 0, .null),
  (79, .nop, 0, 0, .null)]
theorem o_La_findOuter : xOK y_La_findOuter xk_La r_La_findOuter := ⟨xk_La_ok, by decide +kernel⟩
def y_La_fitsAlign : xMD := (⟨"DataShrinker$Layout", "fitsAlign", "(II)Z"⟩, prog_4_method_18_code, 4, (some .boolean), { frames := 0, cells := 0, slots := 0, locals := 0 })
def r_La_fitsAlign : List xRw := [(0, .aload_n 0, 0, 0, .null),
  (1, .getfield 22, 4, 2, .null),
  (4, .iload_n 2, 2, 0, .null),
  (5, .iaload, 0, 0, .null),
  (6, .iconst 1, 0, 0, .int 1),
  (7, .isub, 0, 0, .null),
  (8, .istore_n 3, 3, 0, .null),
  (9, .aload_n 0, 0, 0, .null),
  (10, .getfield 22, 4, 2, .null),
  (13, .iload_n 1, 1, 0, .null),
  (14, .iaload, 0, 0, .null),
  (15, .iload_n 3, 3, 0, .null),
  (16, .iand, 0, 0, .null),
  (17, .ifCond .ne 25, 42, 0, .null),
  (20, .aload_n 0, 0, 0, .null),
  (21, .getfield 18, 3, 2, .null),
  (24, .iload_n 1, 1, 0, .null),
  (25, .iaload, 0, 0, .null),
  (26, .aload_n 0, 0, 0, .null),
  (27, .getfield 18, 3, 2, .null),
  (30, .iload_n 2, 2, 0, .null),
  (31, .iaload, 0, 0, .null),
  (32, .isub, 0, 0, .null),
  (33, .iload_n 3, 3, 0, .null),
  (34, .iand, 0, 0, .null),
  (35, .ifCond .ne 7, 42, 0, .null),
  (38, .iconst 1, 0, 0, .int 1),
  (39, .goto 4, 43, 0, .null),
  (42, .iconst 0, 0, 0, .int 0),
  (43, .ireturn, 0, 0, .null),
  (44, .nop, 0, 0, .null)]
theorem o_La_fitsAlign : xOK y_La_fitsAlign xk_La r_La_fitsAlign := ⟨xk_La_ok, by decide +kernel⟩
def y_La_listBlocks : xMD := (⟨"DataShrinker$Layout", "listBlocks", "()V"⟩, prog_4_method_19_code, 2, none, { frames := 4, cells := 0, slots := 0, locals := 105 })
def r_La_listBlocks : List xRw := [(0, .aload_n 0, 0, 0, .null),
  (1, .iconst 0, 0, 0, .int 0),
  (2, .putfield 154, 11, 2, .int 0),
  (5, .iconst 0, 0, 0, .int 0),
  (6, .istore_n 1, 1, 0, .null),
  (7, .iload_n 1, 1, 0, .null),
  (8, .bipush 24, 0, 0, .int 24),
  (10, .if_icmp .ge 47, 57, 0, .null),
  (13, .aload_n 0, 0, 0, .null),
  (14, .getfield 25, 5, 2, .null),
  (17, .iload_n 1, 1, 0, .null),
  (18, .baload, 0, 0, .null),
  (19, .ifCond .eq 32, 51, 0, .null),
  (22, .aload_n 0, 0, 0, .null),
  (23, .iload_n 1, 1, 0, .null),
  (24, .invokevirtual 158, 0, 0, .null),
  (27, .iconst (-1), 0, 0, .int (-1)),
  (28, .if_icmp .ne 23, 51, 0, .null),
  (31, .aload_n 0, 0, 0, .null),
  (32, .getfield 41, 10, 2, .null),
  (35, .aload_n 0, 0, 0, .null),
  (36, .getfield 154, 11, 2, .null),
  (39, .iload_n 1, 1, 0, .null),
  (40, .iastore, 0, 0, .null),
  (41, .aload_n 0, 0, 0, .null),
  (42, .dup, 0, 0, .null),
  (43, .getfield 154, 11, 2, .null),
  (46, .iconst 1, 0, 0, .int 1),
  (47, .iadd, 0, 0, .null),
  (48, .putfield 154, 11, 2, .int 0),
  (51, .iinc 1 1, 1, 0, .int 1),
  (54, .goto (-47), 7, 0, .null),
  (57, .aload_n 0, 0, 0, .null),
  (58, .getfield 154, 11, 2, .null),
  (61, .bipush 7, 0, 0, .int 7),
  (63, .if_icmp .gt 26, 89, 0, .null),
  (66, .aload_n 0, 0, 0, .null),
  (67, .getfield 12, 2, 2, .null),
  (70, .aload_n 0, 0, 0, .null),
  (71, .getfield 41, 10, 2, .null),
  (74, .aload_n 0, 0, 0, .null),
  (75, .getfield 154, 11, 2, .null),
  (78, .aload_n 0, 0, 0, .null),
  (79, .getfield 18, 3, 2, .null),
  (82, .aload_n 0, 0, 0, .null),
  (83, .getfield 22, 4, 2, .null),
  (86, .invokevirtual 161, 0, 0, .null),
  (89, .return_, 0, 0, .null),
  (90, .nop, 0, 0, .null)]
theorem o_La_listBlocks : xOK y_La_listBlocks xk_La r_La_listBlocks := ⟨xk_La_ok, by decide +kernel⟩
def y_La_holderOf : xMD := (⟨"DataShrinker$Layout", "holderOf", "(I)I"⟩, prog_4_method_3_code, 2, (some .int), { frames := 0, cells := 0, slots := 0, locals := 0 })
def r_La_holderOf : List xRw := [(0, .aload_n 0, 0, 0, .null),
  (1, .getfield 32, 7, 2, .null),
  (4, .iload_n 1, 1, 0, .null),
  (5, .iaload, 0, 0, .null),
  (6, .iconst (-1), 0, 0, .int (-1)),
  (7, .if_icmp .eq 12, 19, 0, .null),
  (10, .aload_n 0, 0, 0, .null),
  (11, .getfield 32, 7, 2, .null),
  (14, .iload_n 1, 1, 0, .null),
  (15, .iaload, 0, 0, .null),
  (16, .goto 9, 25, 0, .null),
  (19, .aload_n 0, 0, 0, .null),
  (20, .getfield 35, 8, 2, .null),
  (23, .iload_n 1, 1, 0, .null),
  (24, .iaload, 0, 0, .null),
  (25, .ireturn, 0, 0, .null),
  (26, .nop, 0, 0, .null)]
theorem o_La_holderOf : xOK y_La_holderOf xk_La r_La_holderOf := ⟨xk_La_ok, by decide +kernel⟩
def y_La_placeBlocks : xMD := (⟨"DataShrinker$Layout", "placeBlocks", "()V"⟩, prog_4_method_20_code, 3, none, { frames := 1, cells := 0, slots := 0, locals := 21 })
def r_La_placeBlocks : List xRw := [(0, .aload_n 0, 0, 0, .null),
  (1, .iconst 0, 0, 0, .int 0),
  (2, .putfield 165, 13, 2, .int 0),
  (5, .iconst 0, 0, 0, .int 0),
  (6, .istore_n 1, 1, 0, .null),
  (7, .iload_n 1, 1, 0, .null),
  (8, .aload_n 0, 0, 0, .null),
  (9, .getfield 154, 11, 2, .null),
  (12, .if_icmp .ge 63, 75, 0, .null),
  (15, .aload_n 0, 0, 0, .null),
  (16, .getfield 41, 10, 2, .null),
  (19, .iload_n 1, 1, 0, .null),
  (20, .iaload, 0, 0, .null),
  (21, .istore_n 2, 2, 0, .null),
  (22, .aload_n 0, 0, 0, .null),
  (23, .dup, 0, 0, .null),
  (24, .getfield 165, 13, 2, .null),
  (27, .aload_n 0, 0, 0, .null),
  (28, .getfield 165, 13, 2, .null),
  (31, .aload_n 0, 0, 0, .null),
  (32, .getfield 22, 4, 2, .null),
  (35, .iload_n 2, 2, 0, .null),
  (36, .iaload, 0, 0, .null),
  (37, .invokestatic 168, 0, 0, .null),
  (40, .iadd, 0, 0, .null),
  (41, .putfield 165, 13, 2, .int 0),
  (44, .aload_n 0, 0, 0, .null),
  (45, .getfield 38, 9, 2, .null),
  (48, .iload_n 2, 2, 0, .null),
  (49, .aload_n 0, 0, 0, .null),
  (50, .getfield 165, 13, 2, .null),
  (53, .iastore, 0, 0, .null),
  (54, .aload_n 0, 0, 0, .null),
  (55, .dup, 0, 0, .null),
  (56, .getfield 165, 13, 2, .null),
  (59, .aload_n 0, 0, 0, .null),
  (60, .getfield 18, 3, 2, .null),
  (63, .iload_n 2, 2, 0, .null),
  (64, .iaload, 0, 0, .null),
  (65, .iadd, 0, 0, .null),
  (66, .putfield 165, 13, 2, .int 0),
  (69, .iinc 1 1, 1, 0, .int 1),
  (72, .goto (-65), 7, 0, .null),
  (75, .return_, 0, 0, .null),
  (76, .nop, 0, 0, .null)]
theorem o_La_placeBlocks : xOK y_La_placeBlocks xk_La r_La_placeBlocks := ⟨xk_La_ok, by decide +kernel⟩
def y_La_placeOthers : xMD := (⟨"DataShrinker$Layout", "placeOthers", "()V"⟩, prog_4_method_21_code, 2, none, { frames := 0, cells := 0, slots := 0, locals := 0 })
def r_La_placeOthers : List xRw := [(0, .iconst 0, 0, 0, .int 0),
  (1, .istore_n 1, 1, 0, .null),
  (2, .iload_n 1, 1, 0, .null),
  (3, .bipush 24, 0, 0, .int 24),
  (5, .if_icmp .ge 55, 60, 0, .null),
  (8, .aload_n 0, 0, 0, .null),
  (9, .getfield 35, 8, 2, .null),
  (12, .iload_n 1, 1, 0, .null),
  (13, .iaload, 0, 0, .null),
  (14, .iconst (-1), 0, 0, .int (-1)),
  (15, .if_icmp .eq 39, 54, 0, .null),
  (18, .aload_n 0, 0, 0, .null),
  (19, .getfield 38, 9, 2, .null),
  (22, .iload_n 1, 1, 0, .null),
  (23, .aload_n 0, 0, 0, .null),
  (24, .getfield 38, 9, 2, .null),
  (27, .aload_n 0, 0, 0, .null),
  (28, .getfield 35, 8, 2, .null),
  (31, .iload_n 1, 1, 0, .null),
  (32, .iaload, 0, 0, .null),
  (33, .iaload, 0, 0, .null),
  (34, .aload_n 0, 0, 0, .null),
  (35, .getfield 18, 3, 2, .null),
  (38, .aload_n 0, 0, 0, .null),
  (39, .getfield 35, 8, 2, .null),
  (42, .iload_n 1, 1, 0, .null),
  (43, .iaload, 0, 0, .null),
  (44, .iaload, 0, 0, .null),
  (45, .iadd, 0, 0, .null),
  (46, .aload_n 0, 0, 0, .null),
  (47, .getfield 18, 3, 2, .null),
  (50, .iload_n 1, 1, 0, .null),
  (51, .iaload, 0, 0, .null),
  (52, .isub, 0, 0, .null),
  (53, .iastore, 0, 0, .null),
  (54, .iinc 1 1, 1, 0, .int 1),
  (57, .goto (-55), 2, 0, .null),
  (60, .iconst 0, 0, 0, .int 0),
  (61, .istore_n 1, 1, 0, .null),
  (62, .iload_n 1, 1, 0, .null),
  (63, .bipush 24, 0, 0, .int 24),
  (65, .if_icmp .ge 36, 101, 0, .null),
  (68, .aload_n 0, 0, 0, .null),
  (69, .getfield 32, 7, 2, .null),
  (72, .iload_n 1, 1, 0, .null),
  (73, .iaload, 0, 0, .null),
  (74, .iconst (-1), 0, 0, .int (-1)),
  (75, .if_icmp .eq 20, 95, 0, .null),
  (78, .aload_n 0, 0, 0, .null),
  (79, .getfield 38, 9, 2, .null),
  (82, .iload_n 1, 1, 0, .null),
  (83, .aload_n 0, 0, 0, .null),
  (84, .getfield 38, 9, 2, .null),
  (87, .aload_n 0, 0, 0, .null),
  (88, .getfield 32, 7, 2, .null),
  (91, .iload_n 1, 1, 0, .null),
  (92, .iaload, 0, 0, .null),
  (93, .iaload, 0, 0, .null),
  (94, .iastore, 0, 0, .null),
  (95, .iinc 1 1, 1, 0, .int 1),
  (98, .goto (-36), 62, 0, .null),
  (101, .return_, 0, 0, .null),
  (102, .nop, 0, 0, .null)]
theorem o_La_placeOthers : xOK y_La_placeOthers xk_La r_La_placeOthers := ⟨xk_La_ok, by decide +kernel⟩
def y_La_writeOctets : xMD := (⟨"DataShrinker$Layout", "writeOctets", "()V"⟩, prog_4_method_22_code, 3, none, { frames := 1, cells := 0, slots := 0, locals := 26 })
def r_La_writeOctets : List xRw := [(0, .iconst 0, 0, 0, .int 0),
  (1, .istore_n 1, 1, 0, .null),
  (2, .iload_n 1, 1, 0, .null),
  (3, .aload_n 0, 0, 0, .null),
  (4, .getfield 154, 11, 2, .null),
  (7, .if_icmp .ge 46, 53, 0, .null),
  (10, .aload_n 0, 0, 0, .null),
  (11, .getfield 41, 10, 2, .null),
  (14, .iload_n 1, 1, 0, .null),
  (15, .iaload, 0, 0, .null),
  (16, .istore_n 2, 2, 0, .null),
  (17, .aload_n 0, 0, 0, .null),
  (18, .getfield 47, 0, 2, .null),
  (21, .getfield 143, 4, 4, .null),
  (24, .iload_n 2, 2, 0, .null),
  (25, .bipush 64, 0, 0, .int 64),
  (27, .imul, 0, 0, .null),
  (28, .aload_n 0, 0, 0, .null),
  (29, .getfield 44, 12, 2, .null),
  (32, .aload_n 0, 0, 0, .null),
  (33, .getfield 38, 9, 2, .null),
  (36, .iload_n 2, 2, 0, .null),
  (37, .iaload, 0, 0, .null),
  (38, .aload_n 0, 0, 0, .null),
  (39, .getfield 18, 3, 2, .null),
  (42, .iload_n 2, 2, 0, .null),
  (43, .iaload, 0, 0, .null),
  (44, .invokestatic 96, 0, 0, .null),
  (47, .iinc 1 1, 1, 0, .int 1),
  (50, .goto (-48), 2, 0, .null),
  (53, .return_, 0, 0, .null),
  (54, .nop, 0, 0, .null)]
theorem o_La_writeOctets : xOK y_La_writeOctets xk_La r_La_writeOctets := ⟨xk_La_ok, by decide +kernel⟩
def y_Re_countComeTo : xMD := (⟨"DataShrinker$Reach", "countComeTo", "(I)I"⟩, prog_8_method_3_code, 2, (some .int), { frames := 1, cells := 0, slots := 0, locals := 21 })
def r_Re_countComeTo : List xRw := [(0, .aload_n 0, 0, 0, .null),
  (1, .getfield 31, 5, 5, .null),
  (4, .iload_n 1, 1, 0, .null),
  (5, .laload, 0, 0, .null),
  (6, .ldc2_w 83, 0, 0, .long (-1099511627777)),
  (9, .land, 0, 0, .null),
  (10, .invokestatic 85, 0, 0, .null),
  (13, .ireturn, 0, 0, .null),
  (14, .nop, 0, 0, .null)]
theorem o_Re_countComeTo : xOK y_Re_countComeTo xk_Re r_Re_countComeTo := ⟨xk_Re_ok, by decide +kernel⟩
def y_Re_countValues : xMD := (⟨"DataShrinker$Reach", "countValues", "(III)I"⟩, prog_8_method_4_code, 4, (some .int), { frames := 2, cells := 0, slots := 0, locals := 44 })
def r_Re_countValues : List xRw := [(0, .aload_n 0, 0, 0, .null),
  (1, .getfield 24, 3, 5, .null),
  (4, .iload_n 1, 1, 0, .null),
  (5, .iload_n 2, 2, 0, .null),
  (6, .invokestatic 91, 0, 0, .null),
  (9, .iload_n 3, 3, 0, .null),
  (10, .invokestatic 95, 0, 0, .null),
  (13, .invokestatic 98, 0, 0, .null),
  (16, .ireturn, 0, 0, .null),
  (17, .nop, 0, 0, .null)]
theorem o_Re_countValues : xOK y_Re_countValues xk_Re r_Re_countValues := ⟨xk_Re_ok, by decide +kernel⟩
def y_La_countKept : xMD := (⟨"DataShrinker$Layout", "countKept", "()I"⟩, prog_4_method_4_code, 3, (some .int), { frames := 1, cells := 0, slots := 0, locals := 20 })
def r_La_countKept : List xRw := [(0, .iconst 0, 0, 0, .int 0),
  (1, .istore_n 1, 1, 0, .null),
  (2, .iconst 0, 0, 0, .int 0),
  (3, .istore_n 2, 2, 0, .null),
  (4, .iload_n 2, 2, 0, .null),
  (5, .bipush 24, 0, 0, .int 24),
  (7, .if_icmp .ge 21, 28, 0, .null),
  (10, .iload_n 1, 1, 0, .null),
  (11, .aload_n 0, 0, 0, .null),
  (12, .getfield 25, 5, 2, .null),
  (15, .iload_n 2, 2, 0, .null),
  (16, .baload, 0, 0, .null),
  (17, .invokestatic 85, 0, 0, .null),
  (20, .iadd, 0, 0, .null),
  (21, .istore_n 1, 1, 0, .null),
  (22, .iinc 2 1, 2, 0, .int 1),
  (25, .goto (-21), 4, 0, .null),
  (28, .iload_n 1, 1, 0, .null),
  (29, .ireturn, 0, 0, .null),
  (30, .nop, 0, 0, .null)]
theorem o_La_countKept : xOK y_La_countKept xk_La r_La_countKept := ⟨xk_La_ok, by decide +kernel⟩
def y_La_countDropped : xMD := (⟨"DataShrinker$Layout", "countDropped", "()I"⟩, prog_4_method_5_code, 3, (some .int), { frames := 1, cells := 0, slots := 0, locals := 21 })
def r_La_countDropped : List xRw := [(0, .iconst 0, 0, 0, .int 0),
  (1, .istore_n 1, 1, 0, .null),
  (2, .iconst 0, 0, 0, .int 0),
  (3, .istore_n 2, 2, 0, .null),
  (4, .iload_n 2, 2, 0, .null),
  (5, .bipush 24, 0, 0, .int 24),
  (7, .if_icmp .ge 20, 27, 0, .null),
  (10, .iload_n 1, 1, 0, .null),
  (11, .aload_n 0, 0, 0, .null),
  (12, .iload_n 2, 2, 0, .null),
  (13, .invokevirtual 89, 0, 0, .null),
  (16, .invokestatic 85, 0, 0, .null),
  (19, .iadd, 0, 0, .null),
  (20, .istore_n 1, 1, 0, .null),
  (21, .iinc 2 1, 2, 0, .int 1),
  (24, .goto (-20), 4, 0, .null),
  (27, .iload_n 1, 1, 0, .null),
  (28, .ireturn, 0, 0, .null),
  (29, .nop, 0, 0, .null)]
theorem o_La_countDropped : xOK y_La_countDropped xk_La r_La_countDropped := ⟨xk_La_ok, by decide +kernel⟩
def y_La_isDropped : xMD := (⟨"DataShrinker$Layout", "isDropped", "(I)Z"⟩, prog_4_method_7_code, 2, (some .boolean), { frames := 0, cells := 0, slots := 0, locals := 0 })
def r_La_isDropped : List xRw := [(0, .aload_n 0, 0, 0, .null),
  (1, .getfield 18, 3, 2, .null),
  (4, .iload_n 1, 1, 0, .null),
  (5, .iaload, 0, 0, .null),
  (6, .ifCond .le 16, 22, 0, .null),
  (9, .aload_n 0, 0, 0, .null),
  (10, .getfield 25, 5, 2, .null),
  (13, .iload_n 1, 1, 0, .null),
  (14, .baload, 0, 0, .null),
  (15, .ifCond .ne 7, 22, 0, .null),
  (18, .iconst 1, 0, 0, .int 1),
  (19, .goto 4, 23, 0, .null),
  (22, .iconst 0, 0, 0, .int 0),
  (23, .ireturn, 0, 0, .null),
  (24, .nop, 0, 0, .null)]
theorem o_La_isDropped : xOK y_La_isDropped xk_La r_La_isDropped := ⟨xk_La_ok, by decide +kernel⟩
def y_La_countDroppedOctets : xMD := (⟨"DataShrinker$Layout", "countDroppedOctets", "()I"⟩, prog_4_method_6_code, 3, (some .int), { frames := 1, cells := 0, slots := 0, locals := 21 })
def r_La_countDroppedOctets : List xRw := [(0, .iconst 0, 0, 0, .int 0),
  (1, .istore_n 1, 1, 0, .null),
  (2, .iconst 0, 0, 0, .int 0),
  (3, .istore_n 2, 2, 0, .null),
  (4, .iload_n 2, 2, 0, .null),
  (5, .bipush 24, 0, 0, .int 24),
  (7, .if_icmp .ge 30, 37, 0, .null),
  (10, .iload_n 1, 1, 0, .null),
  (11, .aload_n 0, 0, 0, .null),
  (12, .iload_n 2, 2, 0, .null),
  (13, .invokevirtual 89, 0, 0, .null),
  (16, .ifCond .eq 12, 28, 0, .null),
  (19, .aload_n 0, 0, 0, .null),
  (20, .getfield 18, 3, 2, .null),
  (23, .iload_n 2, 2, 0, .null),
  (24, .iaload, 0, 0, .null),
  (25, .goto 4, 29, 0, .null),
  (28, .iconst 0, 0, 0, .int 0),
  (29, .iadd, 0, 0, .null),
  (30, .istore_n 1, 1, 0, .null),
  (31, .iinc 2 1, 2, 0, .int 1),
  (34, .goto (-30), 4, 0, .null),
  (37, .iload_n 1, 1, 0, .null),
  (38, .ireturn, 0, 0, .null),
  (39, .nop, 0, 0, .null)]
theorem o_La_countDroppedOctets : xOK y_La_countDroppedOctets xk_La r_La_countDroppedOctets := ⟨xk_La_ok, by decide +kernel⟩
end
section
def y_Mo_init : xMD := (⟨"DataShrinkerModel", "<init>", "()V"⟩, prog_10_method_1_code, 2, none, { frames := 1, cells := 45, slots := 29840, locals := 20 })
def r_Mo_init : List xRw := [(0, .aload_n 0, 0, 0, .null),
  (1, .invokespecial 3, 0, 0, .null),
  (4, .aload_n 0, 0, 0, .null),
  (5, .bipush 24, 0, 0, .int 24),
  (7, .newarray .int, 0, 0, .null),
  (9, .putfield 9, 1, 7, .null),
  (12, .aload_n 0, 0, 0, .null),
  (13, .bipush 24, 0, 0, .int 24),
  (15, .newarray .int, 0, 0, .null),
  (17, .putfield 13, 2, 7, .null),
  (20, .aload_n 0, 0, 0, .null),
  (21, .bipush 24, 0, 0, .int 24),
  (23, .newarray .int, 0, 0, .null),
  (25, .putfield 16, 3, 7, .null),
  (28, .aload_n 0, 0, 0, .null),
  (29, .sipush 1536, 0, 0, .int 1536),
  (32, .newarray .int, 0, 0, .null),
  (34, .putfield 19, 4, 7, .null),
  (37, .aload_n 0, 0, 0, .null),
  (38, .sipush 1536, 0, 0, .int 1536),
  (41, .newarray .int, 0, 0, .null),
  (43, .putfield 22, 5, 7, .null),
  (46, .aload_n 0, 0, 0, .null),
  (47, .bipush 24, 0, 0, .int 24),
  (49, .newarray .boolean, 0, 0, .null),
  (51, .putfield 25, 6, 7, .null),
  (54, .aload_n 0, 0, 0, .null),
  (55, .bipush 12, 0, 0, .int 12),
  (57, .newarray .int, 0, 0, .null),
  (59, .putfield 29, 7, 7, .null),
  (62, .aload_n 0, 0, 0, .null),
  (63, .sipush 492, 0, 0, .int 492),
  (66, .newarray .int, 0, 0, .null),
  (68, .putfield 32, 8, 7, .null),
  (71, .aload_n 0, 0, 0, .null),
  (72, .sipush 492, 0, 0, .int 492),
  (75, .newarray .int, 0, 0, .null),
  (77, .putfield 35, 9, 7, .null),
  (80, .aload_n 0, 0, 0, .null),
  (81, .sipush 492, 0, 0, .int 492),
  (84, .newarray .int, 0, 0, .null),
  (86, .putfield 38, 10, 7, .null),
  (89, .aload_n 0, 0, 0, .null),
  (90, .sipush 492, 0, 0, .int 492),
  (93, .newarray .int, 0, 0, .null),
  (95, .putfield 41, 11, 7, .null),
  (98, .aload_n 0, 0, 0, .null),
  (99, .bipush 12, 0, 0, .int 12),
  (101, .newarray .boolean, 0, 0, .null),
  (103, .putfield 44, 12, 7, .null),
  (106, .aload_n 0, 0, 0, .null),
  (107, .sipush 200, 0, 0, .int 200),
  (110, .newarray .int, 0, 0, .null),
  (112, .putfield 47, 13, 7, .null),
  (115, .aload_n 0, 0, 0, .null),
  (116, .sipush 3072, 0, 0, .int 3072),
  (119, .newarray .int, 0, 0, .null),
  (121, .putfield 50, 15, 7, .null),
  (124, .aload_n 0, 0, 0, .null),
  (125, .iconst 4, 0, 0, .int 4),
  (126, .newarray .int, 0, 0, .null),
  (128, .putfield 53, 16, 7, .null),
  (131, .aload_n 0, 0, 0, .null),
  (132, .bipush 100, 0, 0, .int 100),
  (134, .newarray .int, 0, 0, .null),
  (136, .putfield 56, 17, 7, .null),
  (139, .aload_n 0, 0, 0, .null),
  (140, .bipush 16, 0, 0, .int 16),
  (142, .newarray .int, 0, 0, .null),
  (144, .putfield 59, 18, 7, .null),
  (147, .aload_n 0, 0, 0, .null),
  (148, .bipush 16, 0, 0, .int 16),
  (150, .newarray .int, 0, 0, .null),
  (152, .putfield 62, 19, 7, .null),
  (155, .aload_n 0, 0, 0, .null),
  (156, .iconst (-1), 0, 0, .int (-1)),
  (157, .putfield 65, 22, 7, .int 0),
  (160, .aload_n 0, 0, 0, .null),
  (161, .iconst (-1), 0, 0, .int (-1)),
  (162, .putfield 69, 23, 7, .int 0),
  (165, .aload_n 0, 0, 0, .null),
  (166, .sipush 7872, 0, 0, .int 7872),
  (169, .newarray .long, 0, 0, .null),
  (171, .putfield 72, 28, 7, .null),
  (174, .aload_n 0, 0, 0, .null),
  (175, .sipush 6144, 0, 0, .int 6144),
  (178, .newarray .long, 0, 0, .null),
  (180, .putfield 76, 29, 7, .null),
  (183, .aload_n 0, 0, 0, .null),
  (184, .sipush 192, 0, 0, .int 192),
  (187, .newarray .long, 0, 0, .null),
  (189, .putfield 79, 30, 7, .null),
  (192, .aload_n 0, 0, 0, .null),
  (193, .sipush 492, 0, 0, .int 492),
  (196, .newarray .boolean, 0, 0, .null),
  (198, .putfield 82, 31, 7, .null),
  (201, .aload_n 0, 0, 0, .null),
  (202, .bipush 12, 0, 0, .int 12),
  (204, .newarray .boolean, 0, 0, .null),
  (206, .putfield 85, 32, 7, .null),
  (209, .aload_n 0, 0, 0, .null),
  (210, .sipush 1536, 0, 0, .int 1536),
  (213, .newarray .boolean, 0, 0, .null),
  (215, .putfield 88, 33, 7, .null),
  (218, .aload_n 0, 0, 0, .null),
  (219, .sipush 1536, 0, 0, .int 1536),
  (222, .newarray .boolean, 0, 0, .null),
  (224, .putfield 91, 34, 7, .null),
  (227, .aload_n 0, 0, 0, .null),
  (228, .bipush 24, 0, 0, .int 24),
  (230, .newarray .boolean, 0, 0, .null),
  (232, .putfield 94, 35, 7, .null),
  (235, .aload_n 0, 0, 0, .null),
  (236, .bipush 24, 0, 0, .int 24),
  (238, .newarray .boolean, 0, 0, .null),
  (240, .putfield 97, 36, 7, .null),
  (243, .aload_n 0, 0, 0, .null),
  (244, .bipush 16, 0, 0, .int 16),
  (246, .newarray .long, 0, 0, .null),
  (248, .putfield 100, 37, 7, .null),
  (251, .aload_n 0, 0, 0, .null),
  (252, .iconst 4, 0, 0, .int 4),
  (253, .newarray .long, 0, 0, .null),
  (255, .putfield 103, 38, 7, .null),
  (258, .aload_n 0, 0, 0, .null),
  (259, .bipush 24, 0, 0, .int 24),
  (261, .newarray .boolean, 0, 0, .null),
  (263, .putfield 106, 40, 7, .null),
  (266, .aload_n 0, 0, 0, .null),
  (267, .bipush 12, 0, 0, .int 12),
  (269, .newarray .boolean, 0, 0, .null),
  (271, .putfield 109, 41, 7, .null),
  (274, .aload_n 0, 0, 0, .null),
  (275, .bipush 36, 0, 0, .int 36),
  (277, .newarray .int, 0, 0, .null),
  (279, .putfield 112, 42, 7, .null),
  (282, .aload_n 0, 0, 0, .null),
  (283, .bipush 24, 0, 0, .int 24),
  (285, .newarray .int, 0, 0, .null),
  (287, .putfield 115, 43, 7, .null),
  (290, .aload_n 0, 0, 0, .null),
  (291, .bipush 12, 0, 0, .int 12),
  (293, .newarray .int, 0, 0, .null),
  (295, .putfield 118, 44, 7, .null),
  (298, .aload_n 0, 0, 0, .null),
  (299, .bipush 24, 0, 0, .int 24),
  (301, .newarray .int, 0, 0, .null),
  (303, .putfield 121, 45, 7, .null),
  (306, .aload_n 0, 0, 0, .null),
  (307, .bipush 24, 0, 0, .int 24),
  (309, .newarray .int, 0, 0, .null),
  (311, .putfield 124, 46, 7, .null),
  (314, .aload_n 0, 0, 0, .null),
  (315, .bipush 24, 0, 0, .int 24),
  (317, .newarray .int, 0, 0, .null),
  (319, .putfield 127, 47, 7, .null),
  (322, .aload_n 0, 0, 0, .null),
  (323, .bipush 24, 0, 0, .int 24),
  (325, .newarray .int, 0, 0, .null),
  (327, .putfield 130, 48, 7, .null),
  (330, .aload_n 0, 0, 0, .null),
  (331, .sipush 3072, 0, 0, .int 3072),
  (334, .newarray .int, 0, 0, .null),
  (336, .putfield 133, 49, 7, .null),
  (339, .aload_n 0, 0, 0, .null),
  (340, .bipush 24, 0, 0, .int 24),
  (342, .newarray .boolean, 0, 0, .null),
  (344, .putfield 136, 50, 7, .null),
  (347, .aload_n 0, 0, 0, .null),
  (348, .bipush 24, 0, 0, .int 24),
  (350, .newarray .boolean, 0, 0, .null),
  (352, .putfield 139, 51, 7, .null),
  (355, .aload_n 0, 0, 0, .null),
  (356, .bipush 24, 0, 0, .int 24),
  (358, .newarray .int, 0, 0, .null),
  (360, .putfield 142, 52, 7, .null),
  (363, .aload_n 0, 0, 0, .null),
  (364, .bipush 24, 0, 0, .int 24),
  (366, .newarray .int, 0, 0, .null),
  (368, .putfield 145, 53, 7, .null),
  (371, .aload_n 0, 0, 0, .null),
  (372, .bipush 24, 0, 0, .int 24),
  (374, .newarray .int, 0, 0, .null),
  (376, .putfield 148, 54, 7, .null),
  (379, .aload_n 0, 0, 0, .null),
  (380, .bipush 24, 0, 0, .int 24),
  (382, .newarray .boolean, 0, 0, .null),
  (384, .putfield 151, 55, 7, .null),
  (387, .iconst 0, 0, 0, .int 0),
  (388, .istore_n 1, 1, 0, .null),
  (389, .iload_n 1, 1, 0, .null),
  (390, .sipush 1536, 0, 0, .int 1536),
  (393, .if_icmp .ge 16, 409, 0, .null),
  (396, .aload_n 0, 0, 0, .null),
  (397, .getfield 22, 5, 7, .null),
  (400, .iload_n 1, 1, 0, .null),
  (401, .iconst (-1), 0, 0, .int (-1)),
  (402, .iastore, 0, 0, .null),
  (403, .iinc 1 1, 1, 0, .int 1),
  (406, .goto (-17), 389, 0, .null),
  (409, .return_, 0, 0, .null),
  (410, .nop, 0, 0, .null)]
def r_Mo_init_0 : List xRw := [(0, .aload_n 0, 0, 0, .null),
  (1, .invokespecial 3, 0, 0, .null),
  (4, .aload_n 0, 0, 0, .null),
  (5, .bipush 24, 0, 0, .int 24),
  (7, .newarray .int, 0, 0, .null),
  (9, .putfield 9, 1, 7, .null),
  (12, .aload_n 0, 0, 0, .null),
  (13, .bipush 24, 0, 0, .int 24),
  (15, .newarray .int, 0, 0, .null),
  (17, .putfield 13, 2, 7, .null),
  (20, .aload_n 0, 0, 0, .null),
  (21, .bipush 24, 0, 0, .int 24),
  (23, .newarray .int, 0, 0, .null),
  (25, .putfield 16, 3, 7, .null),
  (28, .aload_n 0, 0, 0, .null),
  (29, .sipush 1536, 0, 0, .int 1536),
  (32, .newarray .int, 0, 0, .null),
  (34, .putfield 19, 4, 7, .null),
  (37, .aload_n 0, 0, 0, .null),
  (38, .sipush 1536, 0, 0, .int 1536),
  (41, .newarray .int, 0, 0, .null),
  (43, .putfield 22, 5, 7, .null),
  (46, .aload_n 0, 0, 0, .null),
  (47, .bipush 24, 0, 0, .int 24),
  (49, .newarray .boolean, 0, 0, .null),
  (51, .putfield 25, 6, 7, .null),
  (54, .aload_n 0, 0, 0, .null),
  (55, .bipush 12, 0, 0, .int 12),
  (57, .newarray .int, 0, 0, .null),
  (59, .putfield 29, 7, 7, .null),
  (62, .aload_n 0, 0, 0, .null),
  (63, .sipush 492, 0, 0, .int 492),
  (66, .newarray .int, 0, 0, .null),
  (68, .putfield 32, 8, 7, .null),
  (71, .aload_n 0, 0, 0, .null),
  (72, .sipush 492, 0, 0, .int 492),
  (75, .newarray .int, 0, 0, .null),
  (77, .putfield 35, 9, 7, .null),
  (80, .aload_n 0, 0, 0, .null),
  (81, .sipush 492, 0, 0, .int 492),
  (84, .newarray .int, 0, 0, .null),
  (86, .putfield 38, 10, 7, .null),
  (89, .aload_n 0, 0, 0, .null),
  (90, .sipush 492, 0, 0, .int 492),
  (93, .newarray .int, 0, 0, .null),
  (95, .putfield 41, 11, 7, .null),
  (98, .aload_n 0, 0, 0, .null),
  (99, .bipush 12, 0, 0, .int 12),
  (101, .newarray .boolean, 0, 0, .null),
  (103, .putfield 44, 12, 7, .null),
  (106, .aload_n 0, 0, 0, .null),
  (107, .sipush 200, 0, 0, .int 200),
  (110, .newarray .int, 0, 0, .null),
  (112, .putfield 47, 13, 7, .null),
  (115, .aload_n 0, 0, 0, .null),
  (116, .sipush 3072, 0, 0, .int 3072),
  (119, .newarray .int, 0, 0, .null),
  (121, .putfield 50, 15, 7, .null),
  (124, .aload_n 0, 0, 0, .null),
  (125, .iconst 4, 0, 0, .int 4)]
theorem o_Mo_init_0 : xchk (yB y_Mo_init) xk_Mo (r_Mo_init_0 ++ [(126, .newarray .int, 0, 0, .null)]) = true := by decide +kernel
def r_Mo_init_1 : List xRw := [(126, .newarray .int, 0, 0, .null),
  (128, .putfield 53, 16, 7, .null),
  (131, .aload_n 0, 0, 0, .null),
  (132, .bipush 100, 0, 0, .int 100),
  (134, .newarray .int, 0, 0, .null),
  (136, .putfield 56, 17, 7, .null),
  (139, .aload_n 0, 0, 0, .null),
  (140, .bipush 16, 0, 0, .int 16),
  (142, .newarray .int, 0, 0, .null),
  (144, .putfield 59, 18, 7, .null),
  (147, .aload_n 0, 0, 0, .null),
  (148, .bipush 16, 0, 0, .int 16),
  (150, .newarray .int, 0, 0, .null),
  (152, .putfield 62, 19, 7, .null),
  (155, .aload_n 0, 0, 0, .null),
  (156, .iconst (-1), 0, 0, .int (-1)),
  (157, .putfield 65, 22, 7, .int 0),
  (160, .aload_n 0, 0, 0, .null),
  (161, .iconst (-1), 0, 0, .int (-1)),
  (162, .putfield 69, 23, 7, .int 0),
  (165, .aload_n 0, 0, 0, .null),
  (166, .sipush 7872, 0, 0, .int 7872),
  (169, .newarray .long, 0, 0, .null),
  (171, .putfield 72, 28, 7, .null),
  (174, .aload_n 0, 0, 0, .null),
  (175, .sipush 6144, 0, 0, .int 6144),
  (178, .newarray .long, 0, 0, .null),
  (180, .putfield 76, 29, 7, .null),
  (183, .aload_n 0, 0, 0, .null),
  (184, .sipush 192, 0, 0, .int 192),
  (187, .newarray .long, 0, 0, .null),
  (189, .putfield 79, 30, 7, .null),
  (192, .aload_n 0, 0, 0, .null),
  (193, .sipush 492, 0, 0, .int 492),
  (196, .newarray .boolean, 0, 0, .null),
  (198, .putfield 82, 31, 7, .null),
  (201, .aload_n 0, 0, 0, .null),
  (202, .bipush 12, 0, 0, .int 12),
  (204, .newarray .boolean, 0, 0, .null),
  (206, .putfield 85, 32, 7, .null),
  (209, .aload_n 0, 0, 0, .null),
  (210, .sipush 1536, 0, 0, .int 1536),
  (213, .newarray .boolean, 0, 0, .null),
  (215, .putfield 88, 33, 7, .null),
  (218, .aload_n 0, 0, 0, .null),
  (219, .sipush 1536, 0, 0, .int 1536),
  (222, .newarray .boolean, 0, 0, .null),
  (224, .putfield 91, 34, 7, .null),
  (227, .aload_n 0, 0, 0, .null),
  (228, .bipush 24, 0, 0, .int 24),
  (230, .newarray .boolean, 0, 0, .null),
  (232, .putfield 94, 35, 7, .null),
  (235, .aload_n 0, 0, 0, .null),
  (236, .bipush 24, 0, 0, .int 24),
  (238, .newarray .boolean, 0, 0, .null),
  (240, .putfield 97, 36, 7, .null),
  (243, .aload_n 0, 0, 0, .null),
  (244, .bipush 16, 0, 0, .int 16),
  (246, .newarray .long, 0, 0, .null),
  (248, .putfield 100, 37, 7, .null)]
theorem o_Mo_init_1 : xchk (yB y_Mo_init) xk_Mo (r_Mo_init_1 ++ [(251, .aload_n 0, 0, 0, .null)]) = true := by decide +kernel
def r_Mo_init_2 : List xRw := [(251, .aload_n 0, 0, 0, .null),
  (252, .iconst 4, 0, 0, .int 4),
  (253, .newarray .long, 0, 0, .null),
  (255, .putfield 103, 38, 7, .null),
  (258, .aload_n 0, 0, 0, .null),
  (259, .bipush 24, 0, 0, .int 24),
  (261, .newarray .boolean, 0, 0, .null),
  (263, .putfield 106, 40, 7, .null),
  (266, .aload_n 0, 0, 0, .null),
  (267, .bipush 12, 0, 0, .int 12),
  (269, .newarray .boolean, 0, 0, .null),
  (271, .putfield 109, 41, 7, .null),
  (274, .aload_n 0, 0, 0, .null),
  (275, .bipush 36, 0, 0, .int 36),
  (277, .newarray .int, 0, 0, .null),
  (279, .putfield 112, 42, 7, .null),
  (282, .aload_n 0, 0, 0, .null),
  (283, .bipush 24, 0, 0, .int 24),
  (285, .newarray .int, 0, 0, .null),
  (287, .putfield 115, 43, 7, .null),
  (290, .aload_n 0, 0, 0, .null),
  (291, .bipush 12, 0, 0, .int 12),
  (293, .newarray .int, 0, 0, .null),
  (295, .putfield 118, 44, 7, .null),
  (298, .aload_n 0, 0, 0, .null),
  (299, .bipush 24, 0, 0, .int 24),
  (301, .newarray .int, 0, 0, .null),
  (303, .putfield 121, 45, 7, .null),
  (306, .aload_n 0, 0, 0, .null),
  (307, .bipush 24, 0, 0, .int 24),
  (309, .newarray .int, 0, 0, .null),
  (311, .putfield 124, 46, 7, .null),
  (314, .aload_n 0, 0, 0, .null),
  (315, .bipush 24, 0, 0, .int 24),
  (317, .newarray .int, 0, 0, .null),
  (319, .putfield 127, 47, 7, .null),
  (322, .aload_n 0, 0, 0, .null),
  (323, .bipush 24, 0, 0, .int 24),
  (325, .newarray .int, 0, 0, .null),
  (327, .putfield 130, 48, 7, .null),
  (330, .aload_n 0, 0, 0, .null),
  (331, .sipush 3072, 0, 0, .int 3072),
  (334, .newarray .int, 0, 0, .null),
  (336, .putfield 133, 49, 7, .null),
  (339, .aload_n 0, 0, 0, .null),
  (340, .bipush 24, 0, 0, .int 24),
  (342, .newarray .boolean, 0, 0, .null),
  (344, .putfield 136, 50, 7, .null),
  (347, .aload_n 0, 0, 0, .null),
  (348, .bipush 24, 0, 0, .int 24),
  (350, .newarray .boolean, 0, 0, .null),
  (352, .putfield 139, 51, 7, .null),
  (355, .aload_n 0, 0, 0, .null),
  (356, .bipush 24, 0, 0, .int 24),
  (358, .newarray .int, 0, 0, .null),
  (360, .putfield 142, 52, 7, .null),
  (363, .aload_n 0, 0, 0, .null),
  (364, .bipush 24, 0, 0, .int 24),
  (366, .newarray .int, 0, 0, .null),
  (368, .putfield 145, 53, 7, .null)]
theorem o_Mo_init_2 : xchk (yB y_Mo_init) xk_Mo (r_Mo_init_2 ++ [(371, .aload_n 0, 0, 0, .null)]) = true := by decide +kernel
def r_Mo_init_3 : List xRw := [(371, .aload_n 0, 0, 0, .null),
  (372, .bipush 24, 0, 0, .int 24),
  (374, .newarray .int, 0, 0, .null),
  (376, .putfield 148, 54, 7, .null),
  (379, .aload_n 0, 0, 0, .null),
  (380, .bipush 24, 0, 0, .int 24),
  (382, .newarray .boolean, 0, 0, .null),
  (384, .putfield 151, 55, 7, .null),
  (387, .iconst 0, 0, 0, .int 0),
  (388, .istore_n 1, 1, 0, .null),
  (389, .iload_n 1, 1, 0, .null),
  (390, .sipush 1536, 0, 0, .int 1536),
  (393, .if_icmp .ge 16, 409, 0, .null),
  (396, .aload_n 0, 0, 0, .null),
  (397, .getfield 22, 5, 7, .null),
  (400, .iload_n 1, 1, 0, .null),
  (401, .iconst (-1), 0, 0, .int (-1)),
  (402, .iastore, 0, 0, .null),
  (403, .iinc 1 1, 1, 0, .int 1),
  (406, .goto (-17), 389, 0, .null),
  (409, .return_, 0, 0, .null),
  (410, .nop, 0, 0, .null)]
theorem o_Mo_init_3 : xchk (yB y_Mo_init) xk_Mo (r_Mo_init_3) = true := by decide +kernel
set_option maxRecDepth 20000 in
theorem o_Mo_init : xOK y_Mo_init xk_Mo r_Mo_init := ⟨xk_Mo_ok, (xchk_app r_Mo_init_0 _ _ o_Mo_init_0 (xchk_app r_Mo_init_1 _ _ o_Mo_init_1 (xchk_app r_Mo_init_2 _ _ o_Mo_init_2 o_Mo_init_3)))⟩
def y_Mo_item : xMD := (⟨"DataShrinkerModel", "item", "(IIIIZ)Z"⟩, prog_10_method_4_code, 7, (some .boolean), { frames := 1, cells := 0, slots := 0, locals := 22 })
def r_Mo_item : List xRw := [(0, .iload_n 1, 1, 0, .null),
  (1, .iconst 0, 0, 0, .int 0),
  (2, .bipush 23, 0, 0, .int 23),
  (4, .invokestatic 157, 0, 0, .null),
  (7, .ifCond .eq 44, 51, 0, .null),
  (10, .iload_n 2, 2, 0, .null),
  (11, .iconst 0, 0, 0, .int 0),
  (12, .bipush 64, 0, 0, .int 64),
  (14, .invokestatic 157, 0, 0, .null),
  (17, .ifCond .eq 34, 51, 0, .null),
  (20, .iload_n 3, 3, 0, .null),
  (21, .iconst 1, 0, 0, .int 1),
  (22, .if_icmp .eq 19, 41, 0, .null),
  (25, .iload_n 3, 3, 0, .null),
  (26, .iconst 2, 0, 0, .int 2),
  (27, .if_icmp .eq 14, 41, 0, .null),
  (30, .iload_n 3, 3, 0, .null),
  (31, .iconst 4, 0, 0, .int 4),
  (32, .if_icmp .eq 9, 41, 0, .null),
  (35, .iload_n 3, 3, 0, .null),
  (36, .bipush 8, 0, 0, .int 8),
  (38, .if_icmp .ne 13, 51, 0, .null),
  (41, .iload 4, 4, 0, .null),
  (43, .iconst 0, 0, 0, .int 0),
  (44, .iconst 3, 0, 0, .int 3),
  (45, .invokestatic 157, 0, 0, .null),
  (48, .ifCond .ne 5, 53, 0, .null),
  (51, .iconst 0, 0, 0, .int 0),
  (52, .ireturn, 0, 0, .null),
  (53, .aload_n 0, 0, 0, .null),
  (54, .getfield 9, 1, 7, .null),
  (57, .iload_n 1, 1, 0, .null),
  (58, .iload_n 2, 2, 0, .null),
  (59, .iastore, 0, 0, .null),
  (60, .aload_n 0, 0, 0, .null),
  (61, .getfield 13, 2, 7, .null),
  (64, .iload_n 1, 1, 0, .null),
  (65, .iload_n 3, 3, 0, .null),
  (66, .iastore, 0, 0, .null),
  (67, .aload_n 0, 0, 0, .null),
  (68, .getfield 16, 3, 7, .null),
  (71, .iload_n 1, 1, 0, .null),
  (72, .iload 4, 4, 0, .null),
  (74, .iastore, 0, 0, .null),
  (75, .aload_n 0, 0, 0, .null),
  (76, .getfield 25, 6, 7, .null),
  (79, .iload_n 1, 1, 0, .null),
  (80, .iload 5, 5, 0, .null),
  (82, .bastore, 0, 0, .null),
  (83, .iconst 0, 0, 0, .int 0),
  (84, .istore 6, 6, 0, .null),
  (86, .iload 6, 6, 0, .null),
  (88, .bipush 64, 0, 0, .int 64),
  (90, .if_icmp .ge 35, 125, 0, .null),
  (93, .aload_n 0, 0, 0, .null),
  (94, .getfield 19, 4, 7, .null),
  (97, .bipush 64, 0, 0, .int 64),
  (99, .iload_n 1, 1, 0, .null),
  (100, .imul, 0, 0, .null),
  (101, .iload 6, 6, 0, .null),
  (103, .iadd, 0, 0, .null),
  (104, .iconst 0, 0, 0, .int 0),
  (105, .iastore, 0, 0, .null),
  (106, .aload_n 0, 0, 0, .null),
  (107, .getfield 22, 5, 7, .null),
  (110, .bipush 64, 0, 0, .int 64),
  (112, .iload_n 1, 1, 0, .null),
  (113, .imul, 0, 0, .null),
  (114, .iload 6, 6, 0, .null),
  (116, .iadd, 0, 0, .null),
  (117, .iconst (-1), 0, 0, .int (-1)),
  (118, .iastore, 0, 0, .null),
  (119, .iinc 6 1, 6, 0, .int 1),
  (122, .goto (-36), 86, 0, .null),
  (125, .iconst 0, 0, 0, .int 0),
  (126, .istore 6, 6, 0, .null),
  (128, .iload 6, 6, 0, .null),
  (130, .sipush 1536, 0, 0, .int 1536),
  (133, .if_icmp .ge 42, 175, 0, .null),
  (136, .iload_n 2, 2, 0, .null),
  (137, .ifCond .ne 38, 175, 0, .null),
  (140, .aload_n 0, 0, 0, .null),
  (141, .getfield 22, 5, 7, .null),
  (144, .iload 6, 6, 0, .null),
  (146, .aload_n 0, 0, 0, .null),
  (147, .getfield 22, 5, 7, .null),
  (150, .iload 6, 6, 0, .null),
  (152, .iaload, 0, 0, .null),
  (153, .iload_n 1, 1, 0, .null),
  (154, .if_icmp .ne 7, 161, 0, .null),
  (157, .iconst (-1), 0, 0, .int (-1)),
  (158, .goto 10, 168, 0, .null),
  (161, .aload_n 0, 0, 0, .null),
  (162, .getfield 22, 5, 7, .null),
  (165, .iload 6, 6, 0, .null),
  (167, .iaload, 0, 0, .null),
  (168, .iastore, 0, 0, .null),
  (169, .iinc 6 1, 6, 0, .int 1),
  (172, .goto (-44), 128, 0, .null),
  (175, .aload_n 0, 0, 0, .null),
  (176, .iconst 0, 0, 0, .int 0),
  (177, .putfield 161, 26, 7, .long 0),
  (180, .iconst 1, 0, 0, .int 1),
  (181, .ireturn, 0, 0, .null),
  (182, .nop, 0, 0, .null)]
theorem o_Mo_item : xOK y_Mo_item xk_Mo r_Mo_item := ⟨xk_Mo_ok, by decide +kernel⟩
def y_Mo_in : xMD := (⟨"DataShrinkerModel", "in", "(III)Z"⟩, prog_10_method_3_code, 3, (some .boolean), { frames := 0, cells := 0, slots := 0, locals := 0 })
def r_Mo_in : List xRw := [(0, .iload_n 0, 0, 0, .null),
  (1, .iload_n 1, 1, 0, .null),
  (2, .if_icmp .lt 12, 14, 0, .null),
  (5, .iload_n 0, 0, 0, .null),
  (6, .iload_n 2, 2, 0, .null),
  (7, .if_icmp .gt 7, 14, 0, .null),
  (10, .iconst 1, 0, 0, .int 1),
  (11, .goto 4, 15, 0, .null),
  (14, .iconst 0, 0, 0, .int 0),
  (15, .ireturn, 0, 0, .null),
  (16, .nop, 0, 0, .null)]
theorem o_Mo_in : xOK y_Mo_in xk_Mo r_Mo_in := ⟨xk_Mo_ok, by decide +kernel⟩
def y_Mo_bytes : xMD := (⟨"DataShrinkerModel", "bytes", "(IIIJ)I"⟩, prog_10_method_6_code, 7, (some .int), { frames := 2, cells := 0, slots := 0, locals := 44 })
def r_Mo_bytes : List xRw := [(0, .aload_n 0, 0, 0, .null),
  (1, .iload_n 1, 1, 0, .null),
  (2, .iload_n 2, 2, 0, .null),
  (3, .invokevirtual 165, 0, 0, .null),
  (6, .ifCond .eq 13, 19, 0, .null),
  (9, .iload_n 3, 3, 0, .null),
  (10, .iconst 1, 0, 0, .int 1),
  (11, .bipush 8, 0, 0, .int 8),
  (13, .invokestatic 157, 0, 0, .null),
  (16, .ifCond .ne 5, 21, 0, .null),
  (19, .iconst (-1), 0, 0, .int (-1)),
  (20, .ireturn, 0, 0, .null),
  (21, .iconst 0, 0, 0, .int 0),
  (22, .istore 6, 6, 0, .null),
  (24, .iload 6, 6, 0, .null),
  (26, .iload_n 3, 3, 0, .null),
  (27, .if_icmp .ge 52, 79, 0, .null),
  (30, .iload_n 2, 2, 0, .null),
  (31, .iload 6, 6, 0, .null),
  (33, .iadd, 0, 0, .null),
  (34, .aload_n 0, 0, 0, .null),
  (35, .getfield 9, 1, 7, .null),
  (38, .iload_n 1, 1, 0, .null),
  (39, .iaload, 0, 0, .null),
  (40, .if_icmp .ge 39, 79, 0, .null),
  (43, .aload_n 0, 0, 0, .null),
  (44, .getfield 19, 4, 7, .null),
  (47, .bipush 64, 0, 0, .int 64),
  (49, .iload_n 1, 1, 0, .null),
  (50, .imul, 0, 0, .null),
  (51, .iload_n 2, 2, 0, .null),
  (52, .iadd, 0, 0, .null),
  (53, .iload 6, 6, 0, .null),
  (55, .iadd, 0, 0, .null),
  (56, .lload 4, 4, 0, .null),
  (58, .bipush 56, 0, 0, .int 56),
  (60, .bipush 8, 0, 0, .int 8),
  (62, .iload 6, 6, 0, .null),
  (64, .imul, 0, 0, .null),
  (65, .isub, 0, 0, .null),
  (66, .lshr, 0, 0, .null),
  (67, .ldc2_w 169, 0, 0, .long 255),
  (70, .land, 0, 0, .null),
  (71, .l2i, 0, 0, .null),
  (72, .iastore, 0, 0, .null),
  (73, .iinc 6 1, 6, 0, .int 1),
  (76, .goto (-52), 24, 0, .null),
  (79, .aload_n 0, 0, 0, .null),
  (80, .iconst 0, 0, 0, .int 0),
  (81, .putfield 161, 26, 7, .long 0),
  (84, .iload 6, 6, 0, .null),
  (86, .ireturn, 0, 0, .null),
  (87, .nop, 0, 0, .null)]
theorem o_Mo_bytes : xOK y_Mo_bytes xk_Mo r_Mo_bytes := ⟨xk_Mo_ok, by decide +kernel⟩
def y_Mo_has : xMD := (⟨"DataShrinkerModel", "has", "(II)Z"⟩, prog_10_method_5_code, 3, (some .boolean), { frames := 1, cells := 0, slots := 0, locals := 22 })
def r_Mo_has : List xRw := [(0, .iload_n 1, 1, 0, .null),
  (1, .iconst 0, 0, 0, .int 0),
  (2, .bipush 23, 0, 0, .int 23),
  (4, .invokestatic 157, 0, 0, .null),
  (7, .ifCond .eq 23, 30, 0, .null),
  (10, .iload_n 2, 2, 0, .null),
  (11, .iconst 0, 0, 0, .int 0),
  (12, .aload_n 0, 0, 0, .null),
  (13, .getfield 9, 1, 7, .null),
  (16, .iload_n 1, 1, 0, .null),
  (17, .iaload, 0, 0, .null),
  (18, .iconst 1, 0, 0, .int 1),
  (19, .isub, 0, 0, .null),
  (20, .invokestatic 157, 0, 0, .null),
  (23, .ifCond .eq 7, 30, 0, .null),
  (26, .iconst 1, 0, 0, .int 1),
  (27, .goto 4, 31, 0, .null),
  (30, .iconst 0, 0, 0, .int 0),
  (31, .ireturn, 0, 0, .null),
  (32, .nop, 0, 0, .null)]
theorem o_Mo_has : xOK y_Mo_has xk_Mo r_Mo_has := ⟨xk_Mo_ok, by decide +kernel⟩
def y_Mo_refer : xMD := (⟨"DataShrinkerModel", "refer", "(III)Z"⟩, prog_10_method_7_code, 4, (some .boolean), { frames := 2, cells := 0, slots := 0, locals := 44 })
def r_Mo_refer : List xRw := [(0, .aload_n 0, 0, 0, .null),
  (1, .iload_n 1, 1, 0, .null),
  (2, .iload_n 2, 2, 0, .null),
  (3, .invokevirtual 165, 0, 0, .null),
  (6, .ifCond .eq 17, 23, 0, .null),
  (9, .iload_n 3, 3, 0, .null),
  (10, .iconst (-1), 0, 0, .int (-1)),
  (11, .if_icmp .eq 14, 25, 0, .null),
  (14, .aload_n 0, 0, 0, .null),
  (15, .iload_n 3, 3, 0, .null),
  (16, .iconst 0, 0, 0, .int 0),
  (17, .invokevirtual 165, 0, 0, .null),
  (20, .ifCond .ne 5, 25, 0, .null),
  (23, .iconst 0, 0, 0, .int 0),
  (24, .ireturn, 0, 0, .null),
  (25, .aload_n 0, 0, 0, .null),
  (26, .getfield 22, 5, 7, .null),
  (29, .bipush 64, 0, 0, .int 64),
  (31, .iload_n 1, 1, 0, .null),
  (32, .imul, 0, 0, .null),
  (33, .iload_n 2, 2, 0, .null),
  (34, .iadd, 0, 0, .null),
  (35, .iload_n 3, 3, 0, .null),
  (36, .iastore, 0, 0, .null),
  (37, .aload_n 0, 0, 0, .null),
  (38, .iconst 0, 0, 0, .int 0),
  (39, .putfield 161, 26, 7, .long 0),
  (42, .iconst 1, 0, 0, .int 1),
  (43, .ireturn, 0, 0, .null),
  (44, .nop, 0, 0, .null)]
theorem o_Mo_refer : xOK y_Mo_refer xk_Mo r_Mo_refer := ⟨xk_Mo_ok, by decide +kernel⟩
def y_Mo_code : xMD := (⟨"DataShrinkerModel", "code", "(IIIII)I"⟩, prog_10_method_11_code, 7, (some .int), { frames := 3, cells := 0, slots := 0, locals := 65 })
def r_Mo_code : List xRw := [(0, .iload_n 1, 1, 0, .null),
  (1, .iconst 0, 0, 0, .int 0),
  (2, .bipush 11, 0, 0, .int 11),
  (4, .invokestatic 157, 0, 0, .null),
  (7, .ifCond .eq 26, 33, 0, .null),
  (10, .aload_n 0, 0, 0, .null),
  (11, .getfield 29, 7, 7, .null),
  (14, .iload_n 1, 1, 0, .null),
  (15, .iaload, 0, 0, .null),
  (16, .bipush 40, 0, 0, .int 40),
  (18, .if_icmp .eq 15, 33, 0, .null),
  (21, .iload_n 2, 2, 0, .null),
  (22, .iload_n 3, 3, 0, .null),
  (23, .iload 4, 4, 0, .null),
  (25, .iload 5, 5, 0, .null),
  (27, .invokestatic 178, 0, 0, .null),
  (30, .ifCond .ne 5, 35, 0, .null),
  (33, .iconst (-1), 0, 0, .int (-1)),
  (34, .ireturn, 0, 0, .null),
  (35, .bipush 41, 0, 0, .int 41),
  (37, .iload_n 1, 1, 0, .null),
  (38, .imul, 0, 0, .null),
  (39, .aload_n 0, 0, 0, .null),
  (40, .getfield 29, 7, 7, .null),
  (43, .iload_n 1, 1, 0, .null),
  (44, .iaload, 0, 0, .null),
  (45, .iadd, 0, 0, .null),
  (46, .istore 6, 6, 0, .null),
  (48, .aload_n 0, 0, 0, .null),
  (49, .getfield 32, 8, 7, .null),
  (52, .iload 6, 6, 0, .null),
  (54, .iload_n 2, 2, 0, .null),
  (55, .iastore, 0, 0, .null),
  (56, .aload_n 0, 0, 0, .null),
  (57, .getfield 35, 9, 7, .null),
  (60, .iload 6, 6, 0, .null),
  (62, .iload_n 3, 3, 0, .null),
  (63, .iastore, 0, 0, .null),
  (64, .aload_n 0, 0, 0, .null),
  (65, .getfield 38, 10, 7, .null),
  (68, .iload 6, 6, 0, .null),
  (70, .iload 4, 4, 0, .null),
  (72, .iastore, 0, 0, .null),
  (73, .aload_n 0, 0, 0, .null),
  (74, .getfield 41, 11, 7, .null),
  (77, .iload 6, 6, 0, .null),
  (79, .iload 5, 5, 0, .null),
  (81, .iastore, 0, 0, .null),
  (82, .aload_n 0, 0, 0, .null),
  (83, .getfield 29, 7, 7, .null),
  (86, .iload_n 1, 1, 0, .null),
  (87, .dup2, 0, 0, .null),
  (88, .iaload, 0, 0, .null),
  (89, .iconst 1, 0, 0, .int 1),
  (90, .iadd, 0, 0, .null),
  (91, .iastore, 0, 0, .null),
  (92, .aload_n 0, 0, 0, .null),
  (93, .iconst 0, 0, 0, .int 0),
  (94, .putfield 161, 26, 7, .long 0),
  (97, .aload_n 0, 0, 0, .null),
  (98, .getfield 29, 7, 7, .null),
  (101, .iload_n 1, 1, 0, .null),
  (102, .iaload, 0, 0, .null),
  (103, .ireturn, 0, 0, .null),
  (104, .nop, 0, 0, .null)]
theorem o_Mo_code : xOK y_Mo_code xk_Mo r_Mo_code := ⟨xk_Mo_ok, by decide +kernel⟩
def y_Mo_isTold : xMD := (⟨"DataShrinkerModel", "isTold", "(IIII)Z"⟩, prog_10_method_10_code, 4, (some .boolean), { frames := 2, cells := 0, slots := 0, locals := 42 })
def r_Mo_isTold : List xRw := [(0, .iload_n 0, 0, 0, .null),
  (1, .tableswitch 293 0 11 #[63, 91, 63, 121, 148, 175, 199, 227, 248, 227, 266, 121], 0, 0, .null),
  (64, .iload_n 1, 1, 0, .null),
  (65, .invokestatic 171, 0, 0, .null),
  (68, .ifCond .eq 22, 90, 0, .null),
  (71, .iload_n 2, 2, 0, .null),
  (72, .iconst 0, 0, 0, .int 0),
  (73, .sipush 255, 0, 0, .int 255),
  (76, .invokestatic 157, 0, 0, .null),
  (79, .ifCond .eq 11, 90, 0, .null),
  (82, .iload_n 3, 3, 0, .null),
  (83, .ifCond .ne 7, 90, 0, .null),
  (86, .iconst 1, 0, 0, .int 1),
  (87, .goto 4, 91, 0, .null),
  (90, .iconst 0, 0, 0, .int 0),
  (91, .ireturn, 0, 0, .null),
  (92, .iload_n 1, 1, 0, .null),
  (93, .invokestatic 171, 0, 0, .null),
  (96, .ifCond .eq 24, 120, 0, .null),
  (99, .iload_n 2, 2, 0, .null),
  (100, .sipush (-255), 0, 0, .int (-255)),
  (103, .sipush 255, 0, 0, .int 255),
  (106, .invokestatic 157, 0, 0, .null),
  (109, .ifCond .eq 11, 120, 0, .null),
  (112, .iload_n 3, 3, 0, .null),
  (113, .ifCond .ne 7, 120, 0, .null),
  (116, .iconst 1, 0, 0, .int 1),
  (117, .goto 4, 121, 0, .null),
  (120, .iconst 0, 0, 0, .int 0),
  (121, .ireturn, 0, 0, .null),
  (122, .iload_n 1, 1, 0, .null),
  (123, .invokestatic 171, 0, 0, .null),
  (126, .ifCond .eq 21, 147, 0, .null),
  (129, .iload_n 2, 2, 0, .null),
  (130, .invokestatic 175, 0, 0, .null),
  (133, .ifCond .eq 14, 147, 0, .null),
  (136, .iload_n 3, 3, 0, .null),
  (137, .invokestatic 171, 0, 0, .null),
  (140, .ifCond .eq 7, 147, 0, .null),
  (143, .iconst 1, 0, 0, .int 1),
  (144, .goto 4, 148, 0, .null),
  (147, .iconst 0, 0, 0, .int 0),
  (148, .ireturn, 0, 0, .null),
  (149, .iload_n 1, 1, 0, .null),
  (150, .invokestatic 175, 0, 0, .null),
  (153, .ifCond .eq 21, 174, 0, .null),
  (156, .iload_n 2, 2, 0, .null),
  (157, .invokestatic 171, 0, 0, .null),
  (160, .ifCond .eq 14, 174, 0, .null),
  (163, .iload_n 3, 3, 0, .null),
  (164, .invokestatic 171, 0, 0, .null),
  (167, .ifCond .eq 7, 174, 0, .null),
  (170, .iconst 1, 0, 0, .int 1),
  (171, .goto 4, 175, 0, .null),
  (174, .iconst 0, 0, 0, .int 0),
  (175, .ireturn, 0, 0, .null),
  (176, .iload_n 1, 1, 0, .null),
  (177, .iconst 0, 0, 0, .int 0),
  (178, .bipush 11, 0, 0, .int 11),
  (180, .invokestatic 157, 0, 0, .null),
  (183, .ifCond .eq 15, 198, 0, .null),
  (186, .iload_n 2, 2, 0, .null),
  (187, .ifCond .ne 11, 198, 0, .null),
  (190, .iload_n 3, 3, 0, .null),
  (191, .ifCond .ne 7, 198, 0, .null),
  (194, .iconst 1, 0, 0, .int 1),
  (195, .goto 4, 199, 0, .null),
  (198, .iconst 0, 0, 0, .int 0),
  (199, .ireturn, 0, 0, .null),
  (200, .iload_n 1, 1, 0, .null),
  (201, .invokestatic 171, 0, 0, .null),
  (204, .ifCond .eq 22, 226, 0, .null),
  (207, .iload_n 2, 2, 0, .null),
  (208, .bipush (-40), 0, 0, .int (-40)),
  (210, .bipush 40, 0, 0, .int 40),
  (212, .invokestatic 157, 0, 0, .null),
  (215, .ifCond .eq 11, 226, 0, .null),
  (218, .iload_n 3, 3, 0, .null),
  (219, .ifCond .ne 7, 226, 0, .null),
  (222, .iconst 1, 0, 0, .int 1),
  (223, .goto 4, 227, 0, .null),
  (226, .iconst 0, 0, 0, .int 0),
  (227, .ireturn, 0, 0, .null),
  (228, .iload_n 1, 1, 0, .null),
  (229, .invokestatic 171, 0, 0, .null),
  (232, .ifCond .eq 15, 247, 0, .null),
  (235, .iload_n 2, 2, 0, .null),
  (236, .ifCond .ne 11, 247, 0, .null),
  (239, .iload_n 3, 3, 0, .null),
  (240, .ifCond .ne 7, 247, 0, .null),
  (243, .iconst 1, 0, 0, .int 1),
  (244, .goto 4, 248, 0, .null),
  (247, .iconst 0, 0, 0, .int 0),
  (248, .ireturn, 0, 0, .null),
  (249, .iload_n 1, 1, 0, .null),
  (250, .ifCond .ne 15, 265, 0, .null),
  (253, .iload_n 2, 2, 0, .null),
  (254, .ifCond .ne 11, 265, 0, .null),
  (257, .iload_n 3, 3, 0, .null),
  (258, .ifCond .ne 7, 265, 0, .null),
  (261, .iconst 1, 0, 0, .int 1),
  (262, .goto 4, 266, 0, .null),
  (265, .iconst 0, 0, 0, .int 0),
  (266, .ireturn, 0, 0, .null),
  (267, .iload_n 1, 1, 0, .null),
  (268, .invokestatic 171, 0, 0, .null),
  (271, .ifCond .eq 21, 292, 0, .null),
  (274, .iload_n 2, 2, 0, .null),
  (275, .invokestatic 175, 0, 0, .null),
  (278, .ifCond .eq 14, 292, 0, .null),
  (281, .iload_n 3, 3, 0, .null),
  (282, .invokestatic 175, 0, 0, .null),
  (285, .ifCond .eq 7, 292, 0, .null),
  (288, .iconst 1, 0, 0, .int 1),
  (289, .goto 4, 293, 0, .null),
  (292, .iconst 0, 0, 0, .int 0),
  (293, .ireturn, 0, 0, .null),
  (294, .iconst 0, 0, 0, .int 0),
  (295, .ireturn, 0, 0, .null),
  (296, .nop, 0, 0, .null)]
theorem o_Mo_isTold : xOK y_Mo_isTold xk_Mo r_Mo_isTold := ⟨xk_Mo_ok, by decide +kernel⟩
def y_Mo_isRegister : xMD := (⟨"DataShrinkerModel", "isRegister", "(I)Z"⟩, prog_10_method_8_code, 1, (some .boolean), { frames := 1, cells := 0, slots := 0, locals := 22 })
def r_Mo_isRegister : List xRw := [(0, .iload_n 0, 0, 0, .null),
  (1, .iconst 0, 0, 0, .int 0),
  (2, .iconst 3, 0, 0, .int 3),
  (3, .invokestatic 157, 0, 0, .null),
  (6, .ireturn, 0, 0, .null),
  (7, .nop, 0, 0, .null)]
theorem o_Mo_isRegister : xOK y_Mo_isRegister xk_Mo r_Mo_isRegister := ⟨xk_Mo_ok, by decide +kernel⟩
def y_Mo_isItem : xMD := (⟨"DataShrinkerModel", "isItem", "(I)Z"⟩, prog_10_method_9_code, 1, (some .boolean), { frames := 1, cells := 0, slots := 0, locals := 22 })
def r_Mo_isItem : List xRw := [(0, .iload_n 0, 0, 0, .null),
  (1, .iconst 0, 0, 0, .int 0),
  (2, .bipush 23, 0, 0, .int 23),
  (4, .invokestatic 157, 0, 0, .null),
  (7, .ireturn, 0, 0, .null),
  (8, .nop, 0, 0, .null)]
theorem o_Mo_isItem : xOK y_Mo_isItem xk_Mo r_Mo_isItem := ⟨xk_Mo_ok, by decide +kernel⟩
def y_Mo_clear : xMD := (⟨"DataShrinkerModel", "clear", "(I)I"⟩, prog_10_method_12_code, 3, (some .int), { frames := 1, cells := 0, slots := 0, locals := 22 })
def r_Mo_clear : List xRw := [(0, .iload_n 1, 1, 0, .null),
  (1, .iconst 0, 0, 0, .int 0),
  (2, .bipush 11, 0, 0, .int 11),
  (4, .invokestatic 157, 0, 0, .null),
  (7, .ifCond .ne 5, 12, 0, .null),
  (10, .iconst (-1), 0, 0, .int (-1)),
  (11, .ireturn, 0, 0, .null),
  (12, .aload_n 0, 0, 0, .null),
  (13, .getfield 29, 7, 7, .null),
  (16, .iload_n 1, 1, 0, .null),
  (17, .iaload, 0, 0, .null),
  (18, .istore_n 2, 2, 0, .null),
  (19, .aload_n 0, 0, 0, .null),
  (20, .getfield 29, 7, 7, .null),
  (23, .iload_n 1, 1, 0, .null),
  (24, .iconst 0, 0, 0, .int 0),
  (25, .iastore, 0, 0, .null),
  (26, .aload_n 0, 0, 0, .null),
  (27, .iconst 0, 0, 0, .int 0),
  (28, .putfield 161, 26, 7, .long 0),
  (31, .iload_n 2, 2, 0, .null),
  (32, .ireturn, 0, 0, .null),
  (33, .nop, 0, 0, .null)]
theorem o_Mo_clear : xOK y_Mo_clear xk_Mo r_Mo_clear := ⟨xk_Mo_ok, by decide +kernel⟩
def y_Mo_entry : xMD := (⟨"DataShrinkerModel", "entry", "(IZ)Z"⟩, prog_10_method_13_code, 3, (some .boolean), { frames := 1, cells := 0, slots := 0, locals := 22 })
def r_Mo_entry : List xRw := [(0, .iload_n 1, 1, 0, .null),
  (1, .iconst 0, 0, 0, .int 0),
  (2, .bipush 11, 0, 0, .int 11),
  (4, .invokestatic 157, 0, 0, .null),
  (7, .ifCond .eq 13, 20, 0, .null),
  (10, .aload_n 0, 0, 0, .null),
  (11, .getfield 44, 12, 7, .null),
  (14, .iload_n 1, 1, 0, .null),
  (15, .baload, 0, 0, .null),
  (16, .iload_n 2, 2, 0, .null),
  (17, .if_icmp .ne 5, 22, 0, .null),
  (20, .iconst 0, 0, 0, .int 0),
  (21, .ireturn, 0, 0, .null),
  (22, .aload_n 0, 0, 0, .null),
  (23, .getfield 44, 12, 7, .null),
  (26, .iload_n 1, 1, 0, .null),
  (27, .iload_n 2, 2, 0, .null),
  (28, .bastore, 0, 0, .null),
  (29, .aload_n 0, 0, 0, .null),
  (30, .iconst 0, 0, 0, .int 0),
  (31, .putfield 161, 26, 7, .long 0),
  (34, .iconst 1, 0, 0, .int 1),
  (35, .ireturn, 0, 0, .null),
  (36, .nop, 0, 0, .null)]
theorem o_Mo_entry : xOK y_Mo_entry xk_Mo r_Mo_entry := ⟨xk_Mo_ok, by decide +kernel⟩
def y_Mo_input1 : xMD := (⟨"DataShrinkerModel", "input", "(IJ)I"⟩, prog_10_method_14_code, 5, (some .int), { frames := 1, cells := 0, slots := 0, locals := 22 })
def r_Mo_input1 : List xRw := [(0, .iload_n 1, 1, 0, .null),
  (1, .iconst 1, 0, 0, .int 1),
  (2, .bipush 8, 0, 0, .int 8),
  (4, .invokestatic 157, 0, 0, .null),
  (7, .ifCond .eq 15, 22, 0, .null),
  (10, .aload_n 0, 0, 0, .null),
  (11, .getfield 182, 14, 7, .null),
  (14, .iload_n 1, 1, 0, .null),
  (15, .iadd, 0, 0, .null),
  (16, .sipush 200, 0, 0, .int 200),
  (19, .if_icmp .le 5, 24, 0, .null),
  (22, .iconst (-1), 0, 0, .int (-1)),
  (23, .ireturn, 0, 0, .null),
  (24, .iconst 0, 0, 0, .int 0),
  (25, .istore 4, 4, 0, .null),
  (27, .iload 4, 4, 0, .null),
  (29, .iload_n 1, 1, 0, .null),
  (30, .if_icmp .ge 43, 73, 0, .null),
  (33, .aload_n 0, 0, 0, .null),
  (34, .getfield 47, 13, 7, .null),
  (37, .aload_n 0, 0, 0, .null),
  (38, .getfield 182, 14, 7, .null),
  (41, .lload_n 2, 2, 0, .null),
  (42, .bipush 56, 0, 0, .int 56),
  (44, .bipush 8, 0, 0, .int 8),
  (46, .iload 4, 4, 0, .null),
  (48, .imul, 0, 0, .null),
  (49, .isub, 0, 0, .null),
  (50, .lshr, 0, 0, .null),
  (51, .ldc2_w 169, 0, 0, .long 255),
  (54, .land, 0, 0, .null),
  (55, .l2i, 0, 0, .null),
  (56, .iastore, 0, 0, .null),
  (57, .aload_n 0, 0, 0, .null),
  (58, .dup, 0, 0, .null),
  (59, .getfield 182, 14, 7, .null),
  (62, .iconst 1, 0, 0, .int 1),
  (63, .iadd, 0, 0, .null),
  (64, .putfield 182, 14, 7, .int 0),
  (67, .iinc 4 1, 4, 0, .int 1),
  (70, .goto (-43), 27, 0, .null),
  (73, .aload_n 0, 0, 0, .null),
  (74, .getfield 182, 14, 7, .null),
  (77, .ireturn, 0, 0, .null),
  (78, .nop, 0, 0, .null)]
theorem o_Mo_input1 : xOK y_Mo_input1 xk_Mo r_Mo_input1 := ⟨xk_Mo_ok, by decide +kernel⟩
def y_Mo_input2 : xMD := (⟨"DataShrinkerModel", "input", "()I"⟩, prog_10_method_15_code, 2, (some .int), { frames := 0, cells := 0, slots := 0, locals := 0 })
def r_Mo_input2 : List xRw := [(0, .aload_n 0, 0, 0, .null),
  (1, .getfield 182, 14, 7, .null),
  (4, .istore_n 1, 1, 0, .null),
  (5, .aload_n 0, 0, 0, .null),
  (6, .iconst 0, 0, 0, .int 0),
  (7, .putfield 182, 14, 7, .int 0),
  (10, .iload_n 1, 1, 0, .null),
  (11, .ireturn, 0, 0, .null),
  (12, .nop, 0, 0, .null)]
theorem o_Mo_input2 : xOK y_Mo_input2 xk_Mo r_Mo_input2 := ⟨xk_Mo_ok, by decide +kernel⟩
def y_Mo_run : xMD := (⟨"DataShrinkerModel", "run", "(I)I"⟩, prog_10_method_18_code, 2, (some .int), { frames := 3, cells := 0, slots := 0, locals := 74 })
def r_Mo_run : List xRw := [(0, .iload_n 1, 1, 0, .null),
  (1, .iconst 0, 0, 0, .int 0),
  (2, .bipush 11, 0, 0, .int 11),
  (4, .invokestatic 157, 0, 0, .null),
  (7, .ifCond .eq 12, 19, 0, .null),
  (10, .aload_n 0, 0, 0, .null),
  (11, .getfield 44, 12, 7, .null),
  (14, .iload_n 1, 1, 0, .null),
  (15, .baload, 0, 0, .null),
  (16, .ifCond .ne 5, 21, 0, .null),
  (19, .iconst (-1), 0, 0, .int (-1)),
  (20, .ireturn, 0, 0, .null),
  (21, .aload_n 0, 0, 0, .null),
  (22, .iconst 0, 0, 0, .int 0),
  (23, .putfield 185, 25, 7, .long 0),
  (26, .aload_n 0, 0, 0, .null),
  (27, .iload_n 1, 1, 0, .null),
  (28, .invokevirtual 201, 0, 0, .null),
  (31, .ireturn, 0, 0, .null),
  (32, .nop, 0, 0, .null)]
theorem o_Mo_run : xOK y_Mo_run xk_Mo r_Mo_run := ⟨xk_Mo_ok, by decide +kernel⟩
def y_Mo_goes : xMD := (⟨"DataShrinkerModel", "goes", "(I)I"⟩, prog_10_method_17_code, 11, (some .int), { frames := 2, cells := 0, slots := 0, locals := 44 })
def r_Mo_goes : List xRw := [(0, .aload_n 0, 0, 0, .null),
  (1, .iconst 1, 0, 0, .int 1),
  (2, .putfield 188, 24, 7, .long 0),
  (5, .aload_n 0, 0, 0, .null),
  (6, .iconst 0, 0, 0, .int 0),
  (7, .putfield 191, 20, 7, .int 0),
  (10, .aload_n 0, 0, 0, .null),
  (11, .iconst 0, 0, 0, .int 0),
  (12, .putfield 194, 21, 7, .int 0),
  (15, .iconst 0, 0, 0, .int 0),
  (16, .istore_n 2, 2, 0, .null),
  (17, .iconst 0, 0, 0, .int 0),
  (18, .istore_n 3, 3, 0, .null),
  (19, .iload_n 3, 3, 0, .null),
  (20, .iconst 4, 0, 0, .int 4),
  (21, .if_icmp .ge 16, 37, 0, .null),
  (24, .aload_n 0, 0, 0, .null),
  (25, .getfield 53, 16, 7, .null),
  (28, .iload_n 3, 3, 0, .null),
  (29, .iconst 0, 0, 0, .int 0),
  (30, .iastore, 0, 0, .null),
  (31, .iinc 3 1, 3, 0, .int 1),
  (34, .goto (-15), 19, 0, .null),
  (37, .iconst 0, 0, 0, .int 0),
  (38, .istore_n 3, 3, 0, .null),
  (39, .iload_n 3, 3, 0, .null),
  (40, .sipush 3072, 0, 0, .int 3072),
  (43, .if_icmp .ge 48, 91, 0, .null),
  (46, .aload_n 0, 0, 0, .null),
  (47, .getfield 50, 15, 7, .null),
  (50, .iload_n 3, 3, 0, .null),
  (51, .aload_n 0, 0, 0, .null),
  (52, .getfield 185, 25, 7, .null),
  (55, .ifCond .eq 12, 67, 0, .null),
  (58, .aload_n 0, 0, 0, .null),
  (59, .getfield 133, 49, 7, .null),
  (62, .iload_n 3, 3, 0, .null),
  (63, .iaload, 0, 0, .null),
  (64, .goto 20, 84, 0, .null),
  (67, .iload_n 3, 3, 0, .null),
  (68, .sipush 1536, 0, 0, .int 1536),
  (71, .if_icmp .ge 12, 83, 0, .null),
  (74, .aload_n 0, 0, 0, .null),
  (75, .getfield 19, 4, 7, .null),
  (78, .iload_n 3, 3, 0, .null),
  (79, .iaload, 0, 0, .null),
  (80, .goto 4, 84, 0, .null),
  (83, .iconst 0, 0, 0, .int 0),
  (84, .iastore, 0, 0, .null),
  (85, .iinc 3 1, 3, 0, .int 1),
  (88, .goto (-49), 39, 0, .null),
  (91, .iconst 0, 0, 0, .int 0),
  (92, .istore_n 3, 3, 0, .null),
  (93, .iload_n 1, 1, 0, .null),
  (94, .istore 4, 4, 0, .null),
  (96, .iconst 0, 0, 0, .int 0),
  (97, .istore 5, 5, 0, .null),
  (99, .iload 5, 5, 0, .null),
  (101, .ifCond .lt 43, 144, 0, .null),
  (104, .iload 5, 5, 0, .null),
  (106, .aload_n 0, 0, 0, .null),
  (107, .getfield 29, 7, 7, .null),
  (110, .iload 4, 4, 0, .null),
  (112, .iaload, 0, 0, .null),
  (113, .if_icmp .ge 31, 144, 0, .null),
  (116, .aload_n 0, 0, 0, .null),
  (117, .getfield 32, 8, 7, .null),
  (120, .bipush 41, 0, 0, .int 41),
  (122, .iload 4, 4, 0, .null),
  (124, .imul, 0, 0, .null),
  (125, .iload 5, 5, 0, .null),
  (127, .iadd, 0, 0, .null),
  (128, .iaload, 0, 0, .null),
  (129, .bipush 8, 0, 0, .int 8),
  (131, .if_icmp .ne 84, 215, 0, .null),
  (134, .aload_n 0, 0, 0, .null),
  (135, .getfield 194, 21, 7, .null),
  (138, .sipush 2000, 0, 0, .int 2000),
  (141, .if_icmp .ge 74, 215, 0, .null),
  (144, .aload_n 0, 0, 0, .null),
  (145, .dup, 0, 0, .null),
  (146, .getfield 194, 21, 7, .null),
  (149, .iload 5, 5, 0, .null),
  (151, .ifCond .lt 19, 170, 0, .null),
  (154, .iload 5, 5, 0, .null),
  (156, .aload_n 0, 0, 0, .null),
  (157, .getfield 29, 7, 7, .null),
  (160, .iload 4, 4, 0, .null),
  (162, .iaload, 0, 0, .null),
  (163, .if_icmp .ge 7, 170, 0, .null),
  (166, .iconst 1, 0, 0, .int 1),
  (167, .goto 4, 171, 0, .null),
  (170, .iconst 0, 0, 0, .int 0),
  (171, .iadd, 0, 0, .null),
  (172, .putfield 194, 21, 7, .int 0),
  (175, .iload_n 3, 3, 0, .null),
  (176, .ifCond .ne 15, 191, 0, .null),
  (179, .aload_n 0, 0, 0, .null),
  (180, .iconst (-1), 0, 0, .int (-1)),
  (181, .putfield 65, 22, 7, .int 0),
  (184, .aload_n 0, 0, 0, .null),
  (185, .iconst (-1), 0, 0, .int (-1)),
  (186, .putfield 69, 23, 7, .int 0),
  (189, .iconst 0, 0, 0, .int 0),
  (190, .ireturn, 0, 0, .null),
  (191, .iinc 3 (-1), 3, 0, .int (-1)),
  (194, .aload_n 0, 0, 0, .null),
  (195, .getfield 59, 18, 7, .null),
  (198, .iload_n 3, 3, 0, .null),
  (199, .iaload, 0, 0, .null),
  (200, .istore 4, 4, 0, .null),
  (202, .aload_n 0, 0, 0, .null),
  (203, .getfield 62, 19, 7, .null),
  (206, .iload_n 3, 3, 0, .null),
  (207, .iaload, 0, 0, .null),
  (208, .iconst 1, 0, 0, .int 1),
  (209, .iadd, 0, 0, .null),
  (210, .istore 5, 5, 0, .null),
  (212, .goto (-113), 99, 0, .null),
  (215, .aload_n 0, 0, 0, .null),
  (216, .iload 4, 4, 0, .null),
  (218, .putfield 65, 22, 7, .int 0),
  (221, .aload_n 0, 0, 0, .null),
  (222, .iload 5, 5, 0, .null),
  (224, .putfield 69, 23, 7, .int 0),
  (227, .aload_n 0, 0, 0, .null),
  (228, .getfield 194, 21, 7, .null),
  (231, .sipush 2000, 0, 0, .int 2000),
  (234, .if_icmp .ne 5, 239, 0, .null),
  (237, .iconst 2, 0, 0, .int 2),
  (238, .ireturn, 0, 0, .null),
  (239, .bipush 41, 0, 0, .int 41),
  (241, .iload 4, 4, 0, .null),
  (243, .imul, 0, 0, .null),
  (244, .iload 5, 5, 0, .null),
  (246, .iadd, 0, 0, .null),
  (247, .istore 6, 6, 0, .null),
  (249, .aload_n 0, 0, 0, .null),
  (250, .getfield 35, 9, 7, .null),
  (253, .iload 6, 6, 0, .null),
  (255, .iaload, 0, 0, .null),
  (256, .istore 7, 7, 0, .null),
  (258, .aload_n 0, 0, 0, .null),
  (259, .getfield 38, 10, 7, .null),
  (262, .iload 6, 6, 0, .null),
  (264, .iaload, 0, 0, .null),
  (265, .istore 8, 8, 0, .null),
  (267, .aload_n 0, 0, 0, .null),
  (268, .getfield 41, 11, 7, .null),
  (271, .iload 6, 6, 0, .null),
  (273, .iaload, 0, 0, .null),
  (274, .istore 9, 9, 0, .null),
  (276, .iload 5, 5, 0, .null),
  (278, .iconst 1, 0, 0, .int 1),
  (279, .iadd, 0, 0, .null),
  (280, .istore 10, 10, 0, .null),
  (282, .aload_n 0, 0, 0, .null),
  (283, .getfield 32, 8, 7, .null),
  (286, .iload 6, 6, 0, .null),
  (288, .iaload, 0, 0, .null),
  (289, .tableswitch 422 0 10 #[59, 71, 99, 114, 160, 223, 260, 287, 422, 325, 356], 0, 0, .null),
  (348, .aload_n 0, 0, 0, .null),
  (349, .getfield 53, 16, 7, .null),
  (352, .iload 7, 7, 0, .null),
  (354, .iload 8, 8, 0, .null),
  (356, .iastore, 0, 0, .null),
  (357, .goto 429, 786, 0, .null),
  (360, .aload_n 0, 0, 0, .null),
  (361, .getfield 53, 16, 7, .null),
  (364, .iload 7, 7, 0, .null),
  (366, .aload_n 0, 0, 0, .null),
  (367, .getfield 53, 16, 7, .null),
  (370, .iload 7, 7, 0, .null),
  (372, .iaload, 0, 0, .null),
  (373, .iload 8, 8, 0, .null),
  (375, .iadd, 0, 0, .null),
  (376, .sipush 256, 0, 0, .int 256),
  (379, .iadd, 0, 0, .null),
  (380, .sipush 255, 0, 0, .int 255),
  (383, .iand, 0, 0, .null),
  (384, .iastore, 0, 0, .null),
  (385, .goto 401, 786, 0, .null),
  (388, .aload_n 0, 0, 0, .null),
  (389, .getfield 53, 16, 7, .null),
  (392, .iload 7, 7, 0, .null),
  (394, .dup2, 0, 0, .null),
  (395, .iaload, 0, 0, .null),
  (396, .iload 8, 8, 0, .null),
  (398, .iand, 0, 0, .null),
  (399, .iastore, 0, 0, .null),
  (400, .goto 386, 786, 0, .null),
  (403, .aload_n 0, 0, 0, .null),
  (404, .iload 8, 8, 0, .null),
  (406, .aload_n 0, 0, 0, .null),
  (407, .getfield 53, 16, 7, .null),
  (410, .iload 9, 9, 0, .null),
  (412, .iaload, 0, 0, .null),
  (413, .invokevirtual 165, 0, 0, .null),
  (416, .ifCond .ne 5, 421, 0, .null),
  (419, .iconst 1, 0, 0, .int 1),
  (420, .ireturn, 0, 0, .null),
  (421, .aload_n 0, 0, 0, .null),
  (422, .getfield 53, 16, 7, .null),
  (425, .iload 7, 7, 0, .null),
  (427, .aload_n 0, 0, 0, .null),
  (428, .getfield 50, 15, 7, .null),
  (431, .aload_n 0, 0, 0, .null),
  (432, .iload 8, 8, 0, .null),
  (434, .aload_n 0, 0, 0, .null),
  (435, .getfield 53, 16, 7, .null),
  (438, .iload 9, 9, 0, .null),
  (440, .iaload, 0, 0, .null),
  (441, .invokevirtual 197, 0, 0, .null),
  (444, .iaload, 0, 0, .null),
  (445, .iastore, 0, 0, .null),
  (446, .goto 340, 786, 0, .null),
  (449, .aload_n 0, 0, 0, .null),
  (450, .iload 7, 7, 0, .null),
  (452, .aload_n 0, 0, 0, .null),
  (453, .getfield 53, 16, 7, .null),
  (456, .iload 8, 8, 0, .null),
  (458, .iaload, 0, 0, .null),
  (459, .invokevirtual 165, 0, 0, .null),
  (462, .ifCond .ne 5, 467, 0, .null),
  (465, .iconst 1, 0, 0, .int 1),
  (466, .ireturn, 0, 0, .null),
  (467, .aload_n 0, 0, 0, .null),
  (468, .getfield 185, 25, 7, .null),
  (471, .ifCond .eq 13, 484, 0, .null),
  (474, .aload_n 0, 0, 0, .null),
  (475, .getfield 106, 40, 7, .null),
  (478, .iload 7, 7, 0, .null),
  (480, .baload, 0, 0, .null),
  (481, .ifCond .eq 305, 786, 0, .null),
  (484, .aload_n 0, 0, 0, .null),
  (485, .getfield 50, 15, 7, .null),
  (488, .aload_n 0, 0, 0, .null),
  (489, .iload 7, 7, 0, .null),
  (491, .aload_n 0, 0, 0, .null),
  (492, .getfield 53, 16, 7, .null),
  (495, .iload 8, 8, 0, .null),
  (497, .iaload, 0, 0, .null),
  (498, .invokevirtual 197, 0, 0, .null),
  (501, .aload_n 0, 0, 0, .null),
  (502, .getfield 53, 16, 7, .null),
  (505, .iload 9, 9, 0, .null),
  (507, .iaload, 0, 0, .null),
  (508, .iastore, 0, 0, .null),
  (509, .goto 277, 786, 0, .null),
  (512, .iload_n 3, 3, 0, .null),
  (513, .bipush 15, 0, 0, .int 15),
  (515, .if_icmp .ne 5, 520, 0, .null),
  (518, .iconst 3, 0, 0, .int 3),
  (519, .ireturn, 0, 0, .null),
  (520, .aload_n 0, 0, 0, .null),
  (521, .getfield 59, 18, 7, .null),
  (524, .iload_n 3, 3, 0, .null),
  (525, .iload 4, 4, 0, .null),
  (527, .iastore, 0, 0, .null),
  (528, .aload_n 0, 0, 0, .null),
  (529, .getfield 62, 19, 7, .null),
  (532, .iload_n 3, 3, 0, .null),
  (533, .iload 5, 5, 0, .null),
  (535, .iastore, 0, 0, .null),
  (536, .iinc 3 1, 3, 0, .int 1),
  (539, .iload 7, 7, 0, .null),
  (541, .istore 4, 4, 0, .null),
  (543, .iconst 0, 0, 0, .int 0),
  (544, .istore 10, 10, 0, .null),
  (546, .goto 240, 786, 0, .null),
  (549, .aload_n 0, 0, 0, .null),
  (550, .getfield 53, 16, 7, .null),
  (553, .iload 7, 7, 0, .null),
  (555, .iaload, 0, 0, .null),
  (556, .ifCond .ne 13, 569, 0, .null),
  (559, .iload 5, 5, 0, .null),
  (561, .iload 8, 8, 0, .null),
  (563, .iadd, 0, 0, .null),
  (564, .iconst 1, 0, 0, .int 1),
  (565, .iadd, 0, 0, .null),
  (566, .goto 5, 571, 0, .null),
  (569, .iload 10, 10, 0, .null),
  (571, .istore 10, 10, 0, .null),
  (573, .goto 213, 786, 0, .null),
  (576, .aload_n 0, 0, 0, .null),
  (577, .getfield 191, 20, 7, .null),
  (580, .bipush 100, 0, 0, .int 100),
  (582, .if_icmp .ge 19, 601, 0, .null),
  (585, .aload_n 0, 0, 0, .null),
  (586, .getfield 56, 17, 7, .null),
  (589, .aload_n 0, 0, 0, .null),
  (590, .getfield 191, 20, 7, .null),
  (593, .aload_n 0, 0, 0, .null),
  (594, .getfield 53, 16, 7, .null),
  (597, .iload 7, 7, 0, .null),
  (599, .iaload, 0, 0, .null),
  (600, .iastore, 0, 0, .null),
  (601, .aload_n 0, 0, 0, .null),
  (602, .dup, 0, 0, .null),
  (603, .getfield 191, 20, 7, .null),
  (606, .iconst 1, 0, 0, .int 1),
  (607, .iadd, 0, 0, .null),
  (608, .putfield 191, 20, 7, .int 0),
  (611, .goto 175, 786, 0, .null),
  (614, .aload_n 0, 0, 0, .null),
  (615, .getfield 53, 16, 7, .null),
  (618, .iload 7, 7, 0, .null),
  (620, .iload_n 2, 2, 0, .null),
  (621, .aload_n 0, 0, 0, .null),
  (622, .getfield 182, 14, 7, .null),
  (625, .if_icmp .ge 12, 637, 0, .null),
  (628, .aload_n 0, 0, 0, .null),
  (629, .getfield 47, 13, 7, .null),
  (632, .iload_n 2, 2, 0, .null),
  (633, .iaload, 0, 0, .null),
  (634, .goto 4, 638, 0, .null),
  (637, .iconst 0, 0, 0, .int 0),
  (638, .iastore, 0, 0, .null),
  (639, .iinc 2 1, 2, 0, .int 1),
  (642, .goto 144, 786, 0, .null),
  (645, .aload_n 0, 0, 0, .null),
  (646, .getfield 53, 16, 7, .null),
  (649, .iload 7, 7, 0, .null),
  (651, .iload 8, 8, 0, .null),
  (653, .iload 9, 9, 0, .null),
  (655, .if_icmp .eq 47, 702, 0, .null),
  (658, .aload_n 0, 0, 0, .null),
  (659, .getfield 185, 25, 7, .null),
  (662, .ifCond .eq 44, 706, 0, .null),
  (665, .aload_n 0, 0, 0, .null),
  (666, .getfield 106, 40, 7, .null),
  (669, .iload 8, 8, 0, .null),
  (671, .baload, 0, 0, .null),
  (672, .ifCond .eq 34, 706, 0, .null),
  (675, .aload_n 0, 0, 0, .null),
  (676, .getfield 106, 40, 7, .null),
  (679, .iload 9, 9, 0, .null),
  (681, .baload, 0, 0, .null),
  (682, .ifCond .eq 24, 706, 0, .null),
  (685, .aload_n 0, 0, 0, .null),
  (686, .getfield 121, 45, 7, .null),
  (689, .iload 8, 8, 0, .null),
  (691, .iaload, 0, 0, .null),
  (692, .aload_n 0, 0, 0, .null),
  (693, .getfield 121, 45, 7, .null),
  (696, .iload 9, 9, 0, .null),
  (698, .iaload, 0, 0, .null),
  (699, .if_icmp .ne 7, 706, 0, .null),
  (702, .iconst 1, 0, 0, .int 1),
  (703, .goto 4, 707, 0, .null),
  (706, .iconst 0, 0, 0, .int 0),
  (707, .iastore, 0, 0, .null),
  (708, .goto 78, 786, 0, .null),
  (711, .aload_n 0, 0, 0, .null),
  (712, .iload 8, 8, 0, .null),
  (714, .aload_n 0, 0, 0, .null),
  (715, .getfield 53, 16, 7, .null),
  (718, .iload 9, 9, 0, .null),
  (720, .iaload, 0, 0, .null),
  (721, .invokevirtual 165, 0, 0, .null),
  (724, .ifCond .eq 25, 749, 0, .null),
  (727, .aload_n 0, 0, 0, .null),
  (728, .getfield 22, 5, 7, .null),
  (731, .bipush 64, 0, 0, .int 64),
  (733, .iload 8, 8, 0, .null),
  (735, .imul, 0, 0, .null),
  (736, .aload_n 0, 0, 0, .null),
  (737, .getfield 53, 16, 7, .null),
  (740, .iload 9, 9, 0, .null),
  (742, .iaload, 0, 0, .null),
  (743, .iadd, 0, 0, .null),
  (744, .iaload, 0, 0, .null),
  (745, .iconst (-1), 0, 0, .int (-1)),
  (746, .if_icmp .ne 5, 751, 0, .null),
  (749, .iconst 1, 0, 0, .int 1),
  (750, .ireturn, 0, 0, .null),
  (751, .aload_n 0, 0, 0, .null),
  (752, .getfield 53, 16, 7, .null),
  (755, .iload 7, 7, 0, .null),
  (757, .aload_n 0, 0, 0, .null),
  (758, .getfield 50, 15, 7, .null),
  (761, .aload_n 0, 0, 0, .null),
  (762, .aload_n 0, 0, 0, .null),
  (763, .getfield 22, 5, 7, .null),
  (766, .bipush 64, 0, 0, .int 64),
  (768, .iload 8, 8, 0, .null),
  (770, .imul, 0, 0, .null),
  (771, .aload_n 0, 0, 0, .null),
  (772, .getfield 53, 16, 7, .null),
  (775, .iload 9, 9, 0, .null),
  (777, .iaload, 0, 0, .null),
  (778, .iadd, 0, 0, .null),
  (779, .iaload, 0, 0, .null),
  (780, .iconst 0, 0, 0, .int 0),
  (781, .invokevirtual 197, 0, 0, .null),
  (784, .iaload, 0, 0, .null),
  (785, .iastore, 0, 0, .null),
  (786, .aload_n 0, 0, 0, .null),
  (787, .dup, 0, 0, .null),
  (788, .getfield 194, 21, 7, .null),
  (791, .iconst 1, 0, 0, .int 1),
  (792, .iadd, 0, 0, .null),
  (793, .putfield 194, 21, 7, .int 0),
  (796, .iload 10, 10, 0, .null),
  (798, .istore 5, 5, 0, .null),
  (800, .goto (-701), 99, 0, .null),
  (803, .nop, 0, 0, .null)]
def r_Mo_goes_0 : List xRw := [(0, .aload_n 0, 0, 0, .null),
  (1, .iconst 1, 0, 0, .int 1),
  (2, .putfield 188, 24, 7, .long 0),
  (5, .aload_n 0, 0, 0, .null),
  (6, .iconst 0, 0, 0, .int 0),
  (7, .putfield 191, 20, 7, .int 0),
  (10, .aload_n 0, 0, 0, .null),
  (11, .iconst 0, 0, 0, .int 0),
  (12, .putfield 194, 21, 7, .int 0),
  (15, .iconst 0, 0, 0, .int 0),
  (16, .istore_n 2, 2, 0, .null),
  (17, .iconst 0, 0, 0, .int 0),
  (18, .istore_n 3, 3, 0, .null),
  (19, .iload_n 3, 3, 0, .null),
  (20, .iconst 4, 0, 0, .int 4),
  (21, .if_icmp .ge 16, 37, 0, .null),
  (24, .aload_n 0, 0, 0, .null),
  (25, .getfield 53, 16, 7, .null),
  (28, .iload_n 3, 3, 0, .null),
  (29, .iconst 0, 0, 0, .int 0),
  (30, .iastore, 0, 0, .null),
  (31, .iinc 3 1, 3, 0, .int 1),
  (34, .goto (-15), 19, 0, .null),
  (37, .iconst 0, 0, 0, .int 0),
  (38, .istore_n 3, 3, 0, .null),
  (39, .iload_n 3, 3, 0, .null),
  (40, .sipush 3072, 0, 0, .int 3072),
  (43, .if_icmp .ge 48, 91, 0, .null),
  (46, .aload_n 0, 0, 0, .null),
  (47, .getfield 50, 15, 7, .null),
  (50, .iload_n 3, 3, 0, .null),
  (51, .aload_n 0, 0, 0, .null),
  (52, .getfield 185, 25, 7, .null),
  (55, .ifCond .eq 12, 67, 0, .null),
  (58, .aload_n 0, 0, 0, .null),
  (59, .getfield 133, 49, 7, .null),
  (62, .iload_n 3, 3, 0, .null),
  (63, .iaload, 0, 0, .null),
  (64, .goto 20, 84, 0, .null),
  (67, .iload_n 3, 3, 0, .null),
  (68, .sipush 1536, 0, 0, .int 1536),
  (71, .if_icmp .ge 12, 83, 0, .null),
  (74, .aload_n 0, 0, 0, .null),
  (75, .getfield 19, 4, 7, .null),
  (78, .iload_n 3, 3, 0, .null),
  (79, .iaload, 0, 0, .null),
  (80, .goto 4, 84, 0, .null),
  (83, .iconst 0, 0, 0, .int 0),
  (84, .iastore, 0, 0, .null),
  (85, .iinc 3 1, 3, 0, .int 1),
  (88, .goto (-49), 39, 0, .null),
  (91, .iconst 0, 0, 0, .int 0),
  (92, .istore_n 3, 3, 0, .null),
  (93, .iload_n 1, 1, 0, .null),
  (94, .istore 4, 4, 0, .null),
  (96, .iconst 0, 0, 0, .int 0),
  (97, .istore 5, 5, 0, .null),
  (99, .iload 5, 5, 0, .null),
  (101, .ifCond .lt 43, 144, 0, .null),
  (104, .iload 5, 5, 0, .null)]
theorem o_Mo_goes_0 : xchk (yB y_Mo_goes) xk_Mo (r_Mo_goes_0 ++ [(106, .aload_n 0, 0, 0, .null)]) = true := by decide +kernel
def r_Mo_goes_1 : List xRw := [(106, .aload_n 0, 0, 0, .null),
  (107, .getfield 29, 7, 7, .null),
  (110, .iload 4, 4, 0, .null),
  (112, .iaload, 0, 0, .null),
  (113, .if_icmp .ge 31, 144, 0, .null),
  (116, .aload_n 0, 0, 0, .null),
  (117, .getfield 32, 8, 7, .null),
  (120, .bipush 41, 0, 0, .int 41),
  (122, .iload 4, 4, 0, .null),
  (124, .imul, 0, 0, .null),
  (125, .iload 5, 5, 0, .null),
  (127, .iadd, 0, 0, .null),
  (128, .iaload, 0, 0, .null),
  (129, .bipush 8, 0, 0, .int 8),
  (131, .if_icmp .ne 84, 215, 0, .null),
  (134, .aload_n 0, 0, 0, .null),
  (135, .getfield 194, 21, 7, .null),
  (138, .sipush 2000, 0, 0, .int 2000),
  (141, .if_icmp .ge 74, 215, 0, .null),
  (144, .aload_n 0, 0, 0, .null),
  (145, .dup, 0, 0, .null),
  (146, .getfield 194, 21, 7, .null),
  (149, .iload 5, 5, 0, .null),
  (151, .ifCond .lt 19, 170, 0, .null),
  (154, .iload 5, 5, 0, .null),
  (156, .aload_n 0, 0, 0, .null),
  (157, .getfield 29, 7, 7, .null),
  (160, .iload 4, 4, 0, .null),
  (162, .iaload, 0, 0, .null),
  (163, .if_icmp .ge 7, 170, 0, .null),
  (166, .iconst 1, 0, 0, .int 1),
  (167, .goto 4, 171, 0, .null),
  (170, .iconst 0, 0, 0, .int 0),
  (171, .iadd, 0, 0, .null),
  (172, .putfield 194, 21, 7, .int 0),
  (175, .iload_n 3, 3, 0, .null),
  (176, .ifCond .ne 15, 191, 0, .null),
  (179, .aload_n 0, 0, 0, .null),
  (180, .iconst (-1), 0, 0, .int (-1)),
  (181, .putfield 65, 22, 7, .int 0),
  (184, .aload_n 0, 0, 0, .null),
  (185, .iconst (-1), 0, 0, .int (-1)),
  (186, .putfield 69, 23, 7, .int 0),
  (189, .iconst 0, 0, 0, .int 0),
  (190, .ireturn, 0, 0, .null),
  (191, .iinc 3 (-1), 3, 0, .int (-1)),
  (194, .aload_n 0, 0, 0, .null),
  (195, .getfield 59, 18, 7, .null),
  (198, .iload_n 3, 3, 0, .null),
  (199, .iaload, 0, 0, .null),
  (200, .istore 4, 4, 0, .null),
  (202, .aload_n 0, 0, 0, .null),
  (203, .getfield 62, 19, 7, .null),
  (206, .iload_n 3, 3, 0, .null),
  (207, .iaload, 0, 0, .null),
  (208, .iconst 1, 0, 0, .int 1),
  (209, .iadd, 0, 0, .null),
  (210, .istore 5, 5, 0, .null),
  (212, .goto (-113), 99, 0, .null),
  (215, .aload_n 0, 0, 0, .null)]
theorem o_Mo_goes_1 : xchk (yB y_Mo_goes) xk_Mo (r_Mo_goes_1 ++ [(216, .iload 4, 4, 0, .null)]) = true := by decide +kernel
def r_Mo_goes_2 : List xRw := [(216, .iload 4, 4, 0, .null),
  (218, .putfield 65, 22, 7, .int 0),
  (221, .aload_n 0, 0, 0, .null),
  (222, .iload 5, 5, 0, .null),
  (224, .putfield 69, 23, 7, .int 0),
  (227, .aload_n 0, 0, 0, .null),
  (228, .getfield 194, 21, 7, .null),
  (231, .sipush 2000, 0, 0, .int 2000),
  (234, .if_icmp .ne 5, 239, 0, .null),
  (237, .iconst 2, 0, 0, .int 2),
  (238, .ireturn, 0, 0, .null),
  (239, .bipush 41, 0, 0, .int 41),
  (241, .iload 4, 4, 0, .null),
  (243, .imul, 0, 0, .null),
  (244, .iload 5, 5, 0, .null),
  (246, .iadd, 0, 0, .null),
  (247, .istore 6, 6, 0, .null),
  (249, .aload_n 0, 0, 0, .null),
  (250, .getfield 35, 9, 7, .null),
  (253, .iload 6, 6, 0, .null),
  (255, .iaload, 0, 0, .null),
  (256, .istore 7, 7, 0, .null),
  (258, .aload_n 0, 0, 0, .null),
  (259, .getfield 38, 10, 7, .null),
  (262, .iload 6, 6, 0, .null),
  (264, .iaload, 0, 0, .null),
  (265, .istore 8, 8, 0, .null),
  (267, .aload_n 0, 0, 0, .null),
  (268, .getfield 41, 11, 7, .null),
  (271, .iload 6, 6, 0, .null),
  (273, .iaload, 0, 0, .null),
  (274, .istore 9, 9, 0, .null),
  (276, .iload 5, 5, 0, .null),
  (278, .iconst 1, 0, 0, .int 1),
  (279, .iadd, 0, 0, .null),
  (280, .istore 10, 10, 0, .null),
  (282, .aload_n 0, 0, 0, .null),
  (283, .getfield 32, 8, 7, .null),
  (286, .iload 6, 6, 0, .null),
  (288, .iaload, 0, 0, .null),
  (289, .tableswitch 422 0 10 #[59, 71, 99, 114, 160, 223, 260, 287, 422, 325, 356], 0, 0, .null),
  (348, .aload_n 0, 0, 0, .null),
  (349, .getfield 53, 16, 7, .null),
  (352, .iload 7, 7, 0, .null),
  (354, .iload 8, 8, 0, .null),
  (356, .iastore, 0, 0, .null),
  (357, .goto 429, 786, 0, .null),
  (360, .aload_n 0, 0, 0, .null),
  (361, .getfield 53, 16, 7, .null),
  (364, .iload 7, 7, 0, .null),
  (366, .aload_n 0, 0, 0, .null),
  (367, .getfield 53, 16, 7, .null),
  (370, .iload 7, 7, 0, .null),
  (372, .iaload, 0, 0, .null),
  (373, .iload 8, 8, 0, .null),
  (375, .iadd, 0, 0, .null),
  (376, .sipush 256, 0, 0, .int 256),
  (379, .iadd, 0, 0, .null),
  (380, .sipush 255, 0, 0, .int 255),
  (383, .iand, 0, 0, .null)]
theorem o_Mo_goes_2 : xchk (yB y_Mo_goes) xk_Mo (r_Mo_goes_2 ++ [(384, .iastore, 0, 0, .null)]) = true := by decide +kernel
def r_Mo_goes_3 : List xRw := [(384, .iastore, 0, 0, .null),
  (385, .goto 401, 786, 0, .null),
  (388, .aload_n 0, 0, 0, .null),
  (389, .getfield 53, 16, 7, .null),
  (392, .iload 7, 7, 0, .null),
  (394, .dup2, 0, 0, .null),
  (395, .iaload, 0, 0, .null),
  (396, .iload 8, 8, 0, .null),
  (398, .iand, 0, 0, .null),
  (399, .iastore, 0, 0, .null),
  (400, .goto 386, 786, 0, .null),
  (403, .aload_n 0, 0, 0, .null),
  (404, .iload 8, 8, 0, .null),
  (406, .aload_n 0, 0, 0, .null),
  (407, .getfield 53, 16, 7, .null),
  (410, .iload 9, 9, 0, .null),
  (412, .iaload, 0, 0, .null),
  (413, .invokevirtual 165, 0, 0, .null),
  (416, .ifCond .ne 5, 421, 0, .null),
  (419, .iconst 1, 0, 0, .int 1),
  (420, .ireturn, 0, 0, .null),
  (421, .aload_n 0, 0, 0, .null),
  (422, .getfield 53, 16, 7, .null),
  (425, .iload 7, 7, 0, .null),
  (427, .aload_n 0, 0, 0, .null),
  (428, .getfield 50, 15, 7, .null),
  (431, .aload_n 0, 0, 0, .null),
  (432, .iload 8, 8, 0, .null),
  (434, .aload_n 0, 0, 0, .null),
  (435, .getfield 53, 16, 7, .null),
  (438, .iload 9, 9, 0, .null),
  (440, .iaload, 0, 0, .null),
  (441, .invokevirtual 197, 0, 0, .null),
  (444, .iaload, 0, 0, .null),
  (445, .iastore, 0, 0, .null),
  (446, .goto 340, 786, 0, .null),
  (449, .aload_n 0, 0, 0, .null),
  (450, .iload 7, 7, 0, .null),
  (452, .aload_n 0, 0, 0, .null),
  (453, .getfield 53, 16, 7, .null),
  (456, .iload 8, 8, 0, .null),
  (458, .iaload, 0, 0, .null),
  (459, .invokevirtual 165, 0, 0, .null),
  (462, .ifCond .ne 5, 467, 0, .null),
  (465, .iconst 1, 0, 0, .int 1),
  (466, .ireturn, 0, 0, .null),
  (467, .aload_n 0, 0, 0, .null),
  (468, .getfield 185, 25, 7, .null),
  (471, .ifCond .eq 13, 484, 0, .null),
  (474, .aload_n 0, 0, 0, .null),
  (475, .getfield 106, 40, 7, .null),
  (478, .iload 7, 7, 0, .null),
  (480, .baload, 0, 0, .null),
  (481, .ifCond .eq 305, 786, 0, .null),
  (484, .aload_n 0, 0, 0, .null),
  (485, .getfield 50, 15, 7, .null),
  (488, .aload_n 0, 0, 0, .null),
  (489, .iload 7, 7, 0, .null),
  (491, .aload_n 0, 0, 0, .null),
  (492, .getfield 53, 16, 7, .null)]
theorem o_Mo_goes_3 : xchk (yB y_Mo_goes) xk_Mo (r_Mo_goes_3 ++ [(495, .iload 8, 8, 0, .null)]) = true := by decide +kernel
def r_Mo_goes_4 : List xRw := [(495, .iload 8, 8, 0, .null),
  (497, .iaload, 0, 0, .null),
  (498, .invokevirtual 197, 0, 0, .null),
  (501, .aload_n 0, 0, 0, .null),
  (502, .getfield 53, 16, 7, .null),
  (505, .iload 9, 9, 0, .null),
  (507, .iaload, 0, 0, .null),
  (508, .iastore, 0, 0, .null),
  (509, .goto 277, 786, 0, .null),
  (512, .iload_n 3, 3, 0, .null),
  (513, .bipush 15, 0, 0, .int 15),
  (515, .if_icmp .ne 5, 520, 0, .null),
  (518, .iconst 3, 0, 0, .int 3),
  (519, .ireturn, 0, 0, .null),
  (520, .aload_n 0, 0, 0, .null),
  (521, .getfield 59, 18, 7, .null),
  (524, .iload_n 3, 3, 0, .null),
  (525, .iload 4, 4, 0, .null),
  (527, .iastore, 0, 0, .null),
  (528, .aload_n 0, 0, 0, .null),
  (529, .getfield 62, 19, 7, .null),
  (532, .iload_n 3, 3, 0, .null),
  (533, .iload 5, 5, 0, .null),
  (535, .iastore, 0, 0, .null),
  (536, .iinc 3 1, 3, 0, .int 1),
  (539, .iload 7, 7, 0, .null),
  (541, .istore 4, 4, 0, .null),
  (543, .iconst 0, 0, 0, .int 0),
  (544, .istore 10, 10, 0, .null),
  (546, .goto 240, 786, 0, .null),
  (549, .aload_n 0, 0, 0, .null),
  (550, .getfield 53, 16, 7, .null),
  (553, .iload 7, 7, 0, .null),
  (555, .iaload, 0, 0, .null),
  (556, .ifCond .ne 13, 569, 0, .null),
  (559, .iload 5, 5, 0, .null),
  (561, .iload 8, 8, 0, .null),
  (563, .iadd, 0, 0, .null),
  (564, .iconst 1, 0, 0, .int 1),
  (565, .iadd, 0, 0, .null),
  (566, .goto 5, 571, 0, .null),
  (569, .iload 10, 10, 0, .null),
  (571, .istore 10, 10, 0, .null),
  (573, .goto 213, 786, 0, .null),
  (576, .aload_n 0, 0, 0, .null),
  (577, .getfield 191, 20, 7, .null),
  (580, .bipush 100, 0, 0, .int 100),
  (582, .if_icmp .ge 19, 601, 0, .null),
  (585, .aload_n 0, 0, 0, .null),
  (586, .getfield 56, 17, 7, .null),
  (589, .aload_n 0, 0, 0, .null),
  (590, .getfield 191, 20, 7, .null),
  (593, .aload_n 0, 0, 0, .null),
  (594, .getfield 53, 16, 7, .null),
  (597, .iload 7, 7, 0, .null),
  (599, .iaload, 0, 0, .null),
  (600, .iastore, 0, 0, .null),
  (601, .aload_n 0, 0, 0, .null),
  (602, .dup, 0, 0, .null),
  (603, .getfield 191, 20, 7, .null)]
theorem o_Mo_goes_4 : xchk (yB y_Mo_goes) xk_Mo (r_Mo_goes_4 ++ [(606, .iconst 1, 0, 0, .int 1)]) = true := by decide +kernel
def r_Mo_goes_5 : List xRw := [(606, .iconst 1, 0, 0, .int 1),
  (607, .iadd, 0, 0, .null),
  (608, .putfield 191, 20, 7, .int 0),
  (611, .goto 175, 786, 0, .null),
  (614, .aload_n 0, 0, 0, .null),
  (615, .getfield 53, 16, 7, .null),
  (618, .iload 7, 7, 0, .null),
  (620, .iload_n 2, 2, 0, .null),
  (621, .aload_n 0, 0, 0, .null),
  (622, .getfield 182, 14, 7, .null),
  (625, .if_icmp .ge 12, 637, 0, .null),
  (628, .aload_n 0, 0, 0, .null),
  (629, .getfield 47, 13, 7, .null),
  (632, .iload_n 2, 2, 0, .null),
  (633, .iaload, 0, 0, .null),
  (634, .goto 4, 638, 0, .null),
  (637, .iconst 0, 0, 0, .int 0),
  (638, .iastore, 0, 0, .null),
  (639, .iinc 2 1, 2, 0, .int 1),
  (642, .goto 144, 786, 0, .null),
  (645, .aload_n 0, 0, 0, .null),
  (646, .getfield 53, 16, 7, .null),
  (649, .iload 7, 7, 0, .null),
  (651, .iload 8, 8, 0, .null),
  (653, .iload 9, 9, 0, .null),
  (655, .if_icmp .eq 47, 702, 0, .null),
  (658, .aload_n 0, 0, 0, .null),
  (659, .getfield 185, 25, 7, .null),
  (662, .ifCond .eq 44, 706, 0, .null),
  (665, .aload_n 0, 0, 0, .null),
  (666, .getfield 106, 40, 7, .null),
  (669, .iload 8, 8, 0, .null),
  (671, .baload, 0, 0, .null),
  (672, .ifCond .eq 34, 706, 0, .null),
  (675, .aload_n 0, 0, 0, .null),
  (676, .getfield 106, 40, 7, .null),
  (679, .iload 9, 9, 0, .null),
  (681, .baload, 0, 0, .null),
  (682, .ifCond .eq 24, 706, 0, .null),
  (685, .aload_n 0, 0, 0, .null),
  (686, .getfield 121, 45, 7, .null),
  (689, .iload 8, 8, 0, .null),
  (691, .iaload, 0, 0, .null),
  (692, .aload_n 0, 0, 0, .null),
  (693, .getfield 121, 45, 7, .null),
  (696, .iload 9, 9, 0, .null),
  (698, .iaload, 0, 0, .null),
  (699, .if_icmp .ne 7, 706, 0, .null),
  (702, .iconst 1, 0, 0, .int 1),
  (703, .goto 4, 707, 0, .null),
  (706, .iconst 0, 0, 0, .int 0),
  (707, .iastore, 0, 0, .null),
  (708, .goto 78, 786, 0, .null),
  (711, .aload_n 0, 0, 0, .null),
  (712, .iload 8, 8, 0, .null),
  (714, .aload_n 0, 0, 0, .null),
  (715, .getfield 53, 16, 7, .null),
  (718, .iload 9, 9, 0, .null),
  (720, .iaload, 0, 0, .null),
  (721, .invokevirtual 165, 0, 0, .null)]
theorem o_Mo_goes_5 : xchk (yB y_Mo_goes) xk_Mo (r_Mo_goes_5 ++ [(724, .ifCond .eq 25, 749, 0, .null)]) = true := by decide +kernel
def r_Mo_goes_6 : List xRw := [(724, .ifCond .eq 25, 749, 0, .null),
  (727, .aload_n 0, 0, 0, .null),
  (728, .getfield 22, 5, 7, .null),
  (731, .bipush 64, 0, 0, .int 64),
  (733, .iload 8, 8, 0, .null),
  (735, .imul, 0, 0, .null),
  (736, .aload_n 0, 0, 0, .null),
  (737, .getfield 53, 16, 7, .null),
  (740, .iload 9, 9, 0, .null),
  (742, .iaload, 0, 0, .null),
  (743, .iadd, 0, 0, .null),
  (744, .iaload, 0, 0, .null),
  (745, .iconst (-1), 0, 0, .int (-1)),
  (746, .if_icmp .ne 5, 751, 0, .null),
  (749, .iconst 1, 0, 0, .int 1),
  (750, .ireturn, 0, 0, .null),
  (751, .aload_n 0, 0, 0, .null),
  (752, .getfield 53, 16, 7, .null),
  (755, .iload 7, 7, 0, .null),
  (757, .aload_n 0, 0, 0, .null),
  (758, .getfield 50, 15, 7, .null),
  (761, .aload_n 0, 0, 0, .null),
  (762, .aload_n 0, 0, 0, .null),
  (763, .getfield 22, 5, 7, .null),
  (766, .bipush 64, 0, 0, .int 64),
  (768, .iload 8, 8, 0, .null),
  (770, .imul, 0, 0, .null),
  (771, .aload_n 0, 0, 0, .null),
  (772, .getfield 53, 16, 7, .null),
  (775, .iload 9, 9, 0, .null),
  (777, .iaload, 0, 0, .null),
  (778, .iadd, 0, 0, .null),
  (779, .iaload, 0, 0, .null),
  (780, .iconst 0, 0, 0, .int 0),
  (781, .invokevirtual 197, 0, 0, .null),
  (784, .iaload, 0, 0, .null),
  (785, .iastore, 0, 0, .null),
  (786, .aload_n 0, 0, 0, .null),
  (787, .dup, 0, 0, .null),
  (788, .getfield 194, 21, 7, .null),
  (791, .iconst 1, 0, 0, .int 1),
  (792, .iadd, 0, 0, .null),
  (793, .putfield 194, 21, 7, .int 0),
  (796, .iload 10, 10, 0, .null),
  (798, .istore 5, 5, 0, .null),
  (800, .goto (-701), 99, 0, .null),
  (803, .nop, 0, 0, .null)]
theorem o_Mo_goes_6 : xchk (yB y_Mo_goes) xk_Mo (r_Mo_goes_6) = true := by decide +kernel
set_option maxRecDepth 20000 in
theorem o_Mo_goes : xOK y_Mo_goes xk_Mo r_Mo_goes := ⟨xk_Mo_ok, (xchk_app r_Mo_goes_0 _ _ o_Mo_goes_0 (xchk_app r_Mo_goes_1 _ _ o_Mo_goes_1 (xchk_app r_Mo_goes_2 _ _ o_Mo_goes_2 (xchk_app r_Mo_goes_3 _ _ o_Mo_goes_3 (xchk_app r_Mo_goes_4 _ _ o_Mo_goes_4 (xchk_app r_Mo_goes_5 _ _ o_Mo_goes_5 o_Mo_goes_6))))))⟩
def y_Mo_place : xMD := (⟨"DataShrinkerModel", "place", "(II)I"⟩, prog_10_method_16_code, 3, (some .int), { frames := 0, cells := 0, slots := 0, locals := 0 })
def r_Mo_place : List xRw := [(0, .aload_n 0, 0, 0, .null),
  (1, .getfield 185, 25, 7, .null),
  (4, .ifCond .eq 14, 18, 0, .null),
  (7, .aload_n 0, 0, 0, .null),
  (8, .getfield 121, 45, 7, .null),
  (11, .iload_n 1, 1, 0, .null),
  (12, .iaload, 0, 0, .null),
  (13, .iload_n 2, 2, 0, .null),
  (14, .iadd, 0, 0, .null),
  (15, .goto 9, 24, 0, .null),
  (18, .bipush 64, 0, 0, .int 64),
  (20, .iload_n 1, 1, 0, .null),
  (21, .imul, 0, 0, .null),
  (22, .iload_n 2, 2, 0, .null),
  (23, .iadd, 0, 0, .null),
  (24, .ireturn, 0, 0, .null),
  (25, .nop, 0, 0, .null)]
theorem o_Mo_place : xOK y_Mo_place xk_Mo r_Mo_place := ⟨xk_Mo_ok, by decide +kernel⟩
def y_Mo_runLaid : xMD := (⟨"DataShrinkerModel", "runLaid", "(I)I"⟩, prog_10_method_19_code, 2, (some .int), { frames := 3, cells := 0, slots := 0, locals := 74 })
def r_Mo_runLaid : List xRw := [(0, .iload_n 1, 1, 0, .null),
  (1, .iconst 0, 0, 0, .int 0),
  (2, .bipush 11, 0, 0, .int 11),
  (4, .invokestatic 157, 0, 0, .null),
  (7, .ifCond .eq 26, 33, 0, .null),
  (10, .aload_n 0, 0, 0, .null),
  (11, .getfield 44, 12, 7, .null),
  (14, .iload_n 1, 1, 0, .null),
  (15, .baload, 0, 0, .null),
  (16, .ifCond .eq 17, 33, 0, .null),
  (19, .aload_n 0, 0, 0, .null),
  (20, .getfield 205, 27, 7, .null),
  (23, .ifCond .eq 10, 33, 0, .null),
  (26, .aload_n 0, 0, 0, .null),
  (27, .getfield 161, 26, 7, .null),
  (30, .ifCond .ne 5, 35, 0, .null),
  (33, .iconst (-1), 0, 0, .int (-1)),
  (34, .ireturn, 0, 0, .null),
  (35, .aload_n 0, 0, 0, .null),
  (36, .iconst 1, 0, 0, .int 1),
  (37, .putfield 185, 25, 7, .long 0),
  (40, .aload_n 0, 0, 0, .null),
  (41, .iload_n 1, 1, 0, .null),
  (42, .invokevirtual 201, 0, 0, .null),
  (45, .ireturn, 0, 0, .null),
  (46, .nop, 0, 0, .null)]
theorem o_Mo_runLaid : xOK y_Mo_runLaid xk_Mo r_Mo_runLaid := ⟨xk_Mo_ok, by decide +kernel⟩
def y_Mo_ran : xMD := (⟨"DataShrinkerModel", "ran", "(I)I"⟩, prog_10_method_20_code, 2, (some .int), { frames := 0, cells := 0, slots := 0, locals := 0 })
def r_Mo_ran : List xRw := [(0, .aload_n 0, 0, 0, .null),
  (1, .getfield 188, 24, 7, .null),
  (4, .ifCond .ne 7, 11, 0, .null),
  (7, .iconst (-1), 0, 0, .int (-1)),
  (8, .goto 51, 59, 0, .null),
  (11, .iload_n 1, 1, 0, .null),
  (12, .ifCond .ne 10, 22, 0, .null),
  (15, .aload_n 0, 0, 0, .null),
  (16, .getfield 191, 20, 7, .null),
  (19, .goto 40, 59, 0, .null),
  (22, .iload_n 1, 1, 0, .null),
  (23, .iconst 1, 0, 0, .int 1),
  (24, .if_icmp .ne 10, 34, 0, .null),
  (27, .aload_n 0, 0, 0, .null),
  (28, .getfield 194, 21, 7, .null),
  (31, .goto 28, 59, 0, .null),
  (34, .iload_n 1, 1, 0, .null),
  (35, .iconst 2, 0, 0, .int 2),
  (36, .if_icmp .ne 10, 46, 0, .null),
  (39, .aload_n 0, 0, 0, .null),
  (40, .getfield 65, 22, 7, .null),
  (43, .goto 16, 59, 0, .null),
  (46, .iload_n 1, 1, 0, .null),
  (47, .iconst 3, 0, 0, .int 3),
  (48, .if_icmp .ne 10, 58, 0, .null),
  (51, .aload_n 0, 0, 0, .null),
  (52, .getfield 69, 23, 7, .null),
  (55, .goto 4, 59, 0, .null),
  (58, .iconst (-1), 0, 0, .int (-1)),
  (59, .ireturn, 0, 0, .null),
  (60, .nop, 0, 0, .null)]
theorem o_Mo_ran : xOK y_Mo_ran xk_Mo r_Mo_ran := ⟨xk_Mo_ok, by decide +kernel⟩
def y_Mo_out : xMD := (⟨"DataShrinkerModel", "out", "(I)I"⟩, prog_10_method_21_code, 2, (some .int), { frames := 0, cells := 0, slots := 0, locals := 0 })
def r_Mo_out : List xRw := [(0, .aload_n 0, 0, 0, .null),
  (1, .getfield 188, 24, 7, .null),
  (4, .ifCond .eq 30, 34, 0, .null),
  (7, .iload_n 1, 1, 0, .null),
  (8, .ifCond .lt 26, 34, 0, .null),
  (11, .iload_n 1, 1, 0, .null),
  (12, .bipush 100, 0, 0, .int 100),
  (14, .if_icmp .ge 20, 34, 0, .null),
  (17, .iload_n 1, 1, 0, .null),
  (18, .aload_n 0, 0, 0, .null),
  (19, .getfield 191, 20, 7, .null),
  (22, .if_icmp .ge 12, 34, 0, .null),
  (25, .aload_n 0, 0, 0, .null),
  (26, .getfield 56, 17, 7, .null),
  (29, .iload_n 1, 1, 0, .null),
  (30, .iaload, 0, 0, .null),
  (31, .goto 4, 35, 0, .null),
  (34, .iconst (-1), 0, 0, .int (-1)),
  (35, .ireturn, 0, 0, .null),
  (36, .nop, 0, 0, .null)]
theorem o_Mo_out : xOK y_Mo_out xk_Mo r_Mo_out := ⟨xk_Mo_ok, by decide +kernel⟩
def y_Mo_shrink : xMD := (⟨"DataShrinkerModel", "shrink", "()I"⟩, prog_10_method_46_code, 1, (some .int), { frames := 4, cells := 0, slots := 0, locals := 102 })
def r_Mo_shrink : List xRw := [(0, .aload_n 0, 0, 0, .null),
  (1, .invokevirtual 289, 0, 0, .null),
  (4, .aload_n 0, 0, 0, .null),
  (5, .invokevirtual 292, 0, 0, .null),
  (8, .aload_n 0, 0, 0, .null),
  (9, .invokevirtual 295, 0, 0, .null),
  (12, .aload_n 0, 0, 0, .null),
  (13, .invokevirtual 298, 0, 0, .null),
  (16, .aload_n 0, 0, 0, .null),
  (17, .iconst 1, 0, 0, .int 1),
  (18, .putfield 205, 27, 7, .long 0),
  (21, .aload_n 0, 0, 0, .null),
  (22, .iconst 1, 0, 0, .int 1),
  (23, .putfield 161, 26, 7, .long 0),
  (26, .aload_n 0, 0, 0, .null),
  (27, .getfield 286, 57, 7, .null),
  (30, .ireturn, 0, 0, .null),
  (31, .nop, 0, 0, .null)]
theorem o_Mo_shrink : xOK y_Mo_shrink xk_Mo r_Mo_shrink := ⟨xk_Mo_ok, by decide +kernel⟩
def y_Mo_reach : xMD := (⟨"DataShrinkerModel", "reach", "()V"⟩, prog_10_method_33_code, 3, none, { frames := 3, cells := 0, slots := 0, locals := 80 })
def r_Mo_reach : List xRw := [(0, .iconst 0, 0, 0, .int 0),
  (1, .istore_n 1, 1, 0, .null),
  (2, .iload_n 1, 1, 0, .null),
  (3, .aload_n 0, 0, 0, .null),
  (4, .getfield 72, 28, 7, .null),
  (7, .arraylength, 0, 0, .null),
  (8, .if_icmp .ge 16, 24, 0, .null),
  (11, .aload_n 0, 0, 0, .null),
  (12, .getfield 72, 28, 7, .null),
  (15, .iload_n 1, 1, 0, .null),
  (16, .lconst 0, 0, 0, .long 0),
  (17, .lastore, 0, 0, .null),
  (18, .iinc 1 1, 1, 0, .int 1),
  (21, .goto (-19), 2, 0, .null),
  (24, .iconst 0, 0, 0, .int 0),
  (25, .istore_n 1, 1, 0, .null),
  (26, .iload_n 1, 1, 0, .null),
  (27, .sipush 192, 0, 0, .int 192),
  (30, .if_icmp .ge 16, 46, 0, .null),
  (33, .aload_n 0, 0, 0, .null),
  (34, .getfield 79, 30, 7, .null),
  (37, .iload_n 1, 1, 0, .null),
  (38, .lconst 0, 0, 0, .long 0),
  (39, .lastore, 0, 0, .null),
  (40, .iinc 1 1, 1, 0, .int 1),
  (43, .goto (-17), 26, 0, .null),
  (46, .iconst 0, 0, 0, .int 0),
  (47, .istore_n 1, 1, 0, .null),
  (48, .iload_n 1, 1, 0, .null),
  (49, .sipush 492, 0, 0, .int 492),
  (52, .if_icmp .ge 16, 68, 0, .null),
  (55, .aload_n 0, 0, 0, .null),
  (56, .getfield 82, 31, 7, .null),
  (59, .iload_n 1, 1, 0, .null),
  (60, .iconst 0, 0, 0, .int 0),
  (61, .bastore, 0, 0, .null),
  (62, .iinc 1 1, 1, 0, .int 1),
  (65, .goto (-17), 48, 0, .null),
  (68, .iconst 0, 0, 0, .int 0),
  (69, .istore_n 1, 1, 0, .null),
  (70, .iload_n 1, 1, 0, .null),
  (71, .sipush 1536, 0, 0, .int 1536),
  (74, .if_icmp .ge 74, 148, 0, .null),
  (77, .aload_n 0, 0, 0, .null),
  (78, .getfield 88, 33, 7, .null),
  (81, .iload_n 1, 1, 0, .null),
  (82, .iconst 0, 0, 0, .int 0),
  (83, .bastore, 0, 0, .null),
  (84, .aload_n 0, 0, 0, .null),
  (85, .getfield 91, 34, 7, .null),
  (88, .iload_n 1, 1, 0, .null),
  (89, .iconst 0, 0, 0, .int 0),
  (90, .bastore, 0, 0, .null),
  (91, .iconst 0, 0, 0, .int 0),
  (92, .istore_n 2, 2, 0, .null),
  (93, .iload_n 2, 2, 0, .null),
  (94, .iconst 4, 0, 0, .int 4),
  (95, .if_icmp .ge 47, 142, 0, .null),
  (98, .aload_n 0, 0, 0, .null),
  (99, .getfield 76, 29, 7, .null),
  (102, .iconst 4, 0, 0, .int 4),
  (103, .iload_n 1, 1, 0, .null),
  (104, .imul, 0, 0, .null),
  (105, .iload_n 2, 2, 0, .null),
  (106, .iadd, 0, 0, .null),
  (107, .aload_n 0, 0, 0, .null),
  (108, .getfield 19, 4, 7, .null),
  (111, .iload_n 1, 1, 0, .null),
  (112, .iaload, 0, 0, .null),
  (113, .bipush 6, 0, 0, .int 6),
  (115, .ishr, 0, 0, .null),
  (116, .iload_n 2, 2, 0, .null),
  (117, .if_icmp .ne 17, 134, 0, .null),
  (120, .lconst 1, 0, 0, .long 1),
  (121, .aload_n 0, 0, 0, .null),
  (122, .getfield 19, 4, 7, .null),
  (125, .iload_n 1, 1, 0, .null),
  (126, .iaload, 0, 0, .null),
  (127, .bipush 63, 0, 0, .int 63),
  (129, .iand, 0, 0, .null),
  (130, .lshl, 0, 0, .null),
  (131, .goto 4, 135, 0, .null),
  (134, .lconst 0, 0, 0, .long 0),
  (135, .lastore, 0, 0, .null),
  (136, .iinc 2 1, 2, 0, .int 1),
  (139, .goto (-46), 93, 0, .null),
  (142, .iinc 1 1, 1, 0, .int 1),
  (145, .goto (-75), 70, 0, .null),
  (148, .iconst 0, 0, 0, .int 0),
  (149, .istore_n 1, 1, 0, .null),
  (150, .iload_n 1, 1, 0, .null),
  (151, .bipush 24, 0, 0, .int 24),
  (153, .if_icmp .ge 23, 176, 0, .null),
  (156, .aload_n 0, 0, 0, .null),
  (157, .getfield 94, 35, 7, .null),
  (160, .iload_n 1, 1, 0, .null),
  (161, .iconst 0, 0, 0, .int 0),
  (162, .bastore, 0, 0, .null),
  (163, .aload_n 0, 0, 0, .null),
  (164, .getfield 97, 36, 7, .null),
  (167, .iload_n 1, 1, 0, .null),
  (168, .iconst 0, 0, 0, .int 0),
  (169, .bastore, 0, 0, .null),
  (170, .iinc 1 1, 1, 0, .int 1),
  (173, .goto (-23), 150, 0, .null),
  (176, .iconst 0, 0, 0, .int 0),
  (177, .istore_n 1, 1, 0, .null),
  (178, .iload_n 1, 1, 0, .null),
  (179, .bipush 12, 0, 0, .int 12),
  (181, .if_icmp .ge 62, 243, 0, .null),
  (184, .aload_n 0, 0, 0, .null),
  (185, .getfield 85, 32, 7, .null),
  (188, .iload_n 1, 1, 0, .null),
  (189, .iconst 0, 0, 0, .int 0),
  (190, .bastore, 0, 0, .null),
  (191, .aload_n 0, 0, 0, .null),
  (192, .getfield 44, 12, 7, .null),
  (195, .iload_n 1, 1, 0, .null),
  (196, .baload, 0, 0, .null),
  (197, .ifCond .eq 40, 237, 0, .null),
  (200, .iconst 0, 0, 0, .int 0),
  (201, .istore_n 2, 2, 0, .null),
  (202, .iload_n 2, 2, 0, .null),
  (203, .bipush 16, 0, 0, .int 16),
  (205, .if_icmp .ge 26, 231, 0, .null),
  (208, .aload_n 0, 0, 0, .null),
  (209, .getfield 100, 37, 7, .null),
  (212, .iload_n 2, 2, 0, .null),
  (213, .iload_n 2, 2, 0, .null),
  (214, .iconst 4, 0, 0, .int 4),
  (215, .irem, 0, 0, .null),
  (216, .ifCond .ne 7, 223, 0, .null),
  (219, .lconst 1, 0, 0, .long 1),
  (220, .goto 4, 224, 0, .null),
  (223, .lconst 0, 0, 0, .long 0),
  (224, .lastore, 0, 0, .null),
  (225, .iinc 2 1, 2, 0, .int 1),
  (228, .goto (-26), 202, 0, .null),
  (231, .aload_n 0, 0, 0, .null),
  (232, .iload_n 1, 1, 0, .null),
  (233, .iconst 0, 0, 0, .int 0),
  (234, .invokevirtual 234, 0, 0, .null),
  (237, .iinc 1 1, 1, 0, .int 1),
  (240, .goto (-62), 178, 0, .null),
  (243, .aload_n 0, 0, 0, .null),
  (244, .iconst 1, 0, 0, .int 1),
  (245, .putfield 208, 39, 7, .long 0),
  (248, .aload_n 0, 0, 0, .null),
  (249, .getfield 208, 39, 7, .null),
  (252, .ifCond .eq 63, 315, 0, .null),
  (255, .aload_n 0, 0, 0, .null),
  (256, .iconst 0, 0, 0, .int 0),
  (257, .putfield 208, 39, 7, .long 0),
  (260, .iconst 0, 0, 0, .int 0),
  (261, .istore_n 1, 1, 0, .null),
  (262, .iload_n 1, 1, 0, .null),
  (263, .bipush 12, 0, 0, .int 12),
  (265, .if_icmp .ge 47, 312, 0, .null),
  (268, .iconst 0, 0, 0, .int 0),
  (269, .istore_n 2, 2, 0, .null),
  (270, .iload_n 2, 2, 0, .null),
  (271, .aload_n 0, 0, 0, .null),
  (272, .getfield 29, 7, 7, .null),
  (275, .iload_n 1, 1, 0, .null),
  (276, .iaload, 0, 0, .null),
  (277, .if_icmp .gt 29, 306, 0, .null),
  (280, .aload_n 0, 0, 0, .null),
  (281, .getfield 82, 31, 7, .null),
  (284, .bipush 41, 0, 0, .int 41),
  (286, .iload_n 1, 1, 0, .null),
  (287, .imul, 0, 0, .null),
  (288, .iload_n 2, 2, 0, .null),
  (289, .iadd, 0, 0, .null),
  (290, .baload, 0, 0, .null),
  (291, .ifCond .eq 9, 300, 0, .null),
  (294, .aload_n 0, 0, 0, .null),
  (295, .iload_n 1, 1, 0, .null),
  (296, .iload_n 2, 2, 0, .null),
  (297, .invokevirtual 248, 0, 0, .null),
  (300, .iinc 2 1, 2, 0, .int 1),
  (303, .goto (-33), 270, 0, .null),
  (306, .iinc 1 1, 1, 0, .int 1),
  (309, .goto (-47), 262, 0, .null),
  (312, .goto (-64), 248, 0, .null),
  (315, .return_, 0, 0, .null),
  (316, .nop, 0, 0, .null)]
theorem o_Mo_reach : xOK y_Mo_reach xk_Mo r_Mo_reach := ⟨xk_Mo_ok, by decide +kernel⟩
def y_Mo_comes : xMD := (⟨"DataShrinkerModel", "comes", "(II)V"⟩, prog_10_method_23_code, 8, none, { frames := 0, cells := 0, slots := 0, locals := 0 })
def r_Mo_comes : List xRw := [(0, .iload_n 2, 2, 0, .null),
  (1, .ifCond .lt 13, 14, 0, .null),
  (4, .iload_n 2, 2, 0, .null),
  (5, .aload_n 0, 0, 0, .null),
  (6, .getfield 29, 7, 7, .null),
  (9, .iload_n 1, 1, 0, .null),
  (10, .iaload, 0, 0, .null),
  (11, .if_icmp .le 12, 23, 0, .null),
  (14, .aload_n 0, 0, 0, .null),
  (15, .getfield 29, 7, 7, .null),
  (18, .iload_n 1, 1, 0, .null),
  (19, .iaload, 0, 0, .null),
  (20, .goto 4, 24, 0, .null),
  (23, .iload_n 2, 2, 0, .null),
  (24, .istore_n 3, 3, 0, .null),
  (25, .bipush 41, 0, 0, .int 41),
  (27, .iload_n 1, 1, 0, .null),
  (28, .imul, 0, 0, .null),
  (29, .iload_n 3, 3, 0, .null),
  (30, .iadd, 0, 0, .null),
  (31, .istore 4, 4, 0, .null),
  (33, .aload_n 0, 0, 0, .null),
  (34, .aload_n 0, 0, 0, .null),
  (35, .getfield 208, 39, 7, .null),
  (38, .ifCond .ne 13, 51, 0, .null),
  (41, .aload_n 0, 0, 0, .null),
  (42, .getfield 82, 31, 7, .null),
  (45, .iload 4, 4, 0, .null),
  (47, .baload, 0, 0, .null),
  (48, .ifCond .ne 7, 55, 0, .null),
  (51, .iconst 1, 0, 0, .int 1),
  (52, .goto 4, 56, 0, .null),
  (55, .iconst 0, 0, 0, .int 0),
  (56, .putfield 208, 39, 7, .long 0),
  (59, .aload_n 0, 0, 0, .null),
  (60, .getfield 82, 31, 7, .null),
  (63, .iload 4, 4, 0, .null),
  (65, .iconst 1, 0, 0, .int 1),
  (66, .bastore, 0, 0, .null),
  (67, .iconst 0, 0, 0, .int 0),
  (68, .istore 5, 5, 0, .null),
  (70, .iload 5, 5, 0, .null),
  (72, .bipush 16, 0, 0, .int 16),
  (74, .if_icmp .ge 82, 156, 0, .null),
  (77, .aload_n 0, 0, 0, .null),
  (78, .getfield 72, 28, 7, .null),
  (81, .bipush 16, 0, 0, .int 16),
  (83, .iload 4, 4, 0, .null),
  (85, .imul, 0, 0, .null),
  (86, .iload 5, 5, 0, .null),
  (88, .iadd, 0, 0, .null),
  (89, .laload, 0, 0, .null),
  (90, .aload_n 0, 0, 0, .null),
  (91, .getfield 100, 37, 7, .null),
  (94, .iload 5, 5, 0, .null),
  (96, .laload, 0, 0, .null),
  (97, .lor, 0, 0, .null),
  (98, .lstore 6, 6, 0, .null),
  (100, .aload_n 0, 0, 0, .null),
  (101, .aload_n 0, 0, 0, .null),
  (102, .getfield 208, 39, 7, .null),
  (105, .ifCond .ne 22, 127, 0, .null),
  (108, .lload 6, 6, 0, .null),
  (110, .aload_n 0, 0, 0, .null),
  (111, .getfield 72, 28, 7, .null),
  (114, .bipush 16, 0, 0, .int 16),
  (116, .iload 4, 4, 0, .null),
  (118, .imul, 0, 0, .null),
  (119, .iload 5, 5, 0, .null),
  (121, .iadd, 0, 0, .null),
  (122, .laload, 0, 0, .null),
  (123, .lcmp, 0, 0, .null),
  (124, .ifCond .eq 7, 131, 0, .null),
  (127, .iconst 1, 0, 0, .int 1),
  (128, .goto 4, 132, 0, .null),
  (131, .iconst 0, 0, 0, .int 0),
  (132, .putfield 208, 39, 7, .long 0),
  (135, .aload_n 0, 0, 0, .null),
  (136, .getfield 72, 28, 7, .null),
  (139, .bipush 16, 0, 0, .int 16),
  (141, .iload 4, 4, 0, .null),
  (143, .imul, 0, 0, .null),
  (144, .iload 5, 5, 0, .null),
  (146, .iadd, 0, 0, .null),
  (147, .lload 6, 6, 0, .null),
  (149, .lastore, 0, 0, .null),
  (150, .iinc 5 1, 5, 0, .int 1),
  (153, .goto (-83), 70, 0, .null),
  (156, .return_, 0, 0, .null),
  (157, .nop, 0, 0, .null)]
theorem o_Mo_comes : xOK y_Mo_comes xk_Mo r_Mo_comes := ⟨xk_Mo_ok, by decide +kernel⟩
def y_Mo_takes : xMD := (⟨"DataShrinkerModel", "takes", "(II)V"⟩, prog_10_method_31_code, 9, none, { frames := 2, cells := 0, slots := 0, locals := 52 })
def r_Mo_takes : List xRw := [(0, .bipush 41, 0, 0, .int 41),
  (2, .iload_n 1, 1, 0, .null),
  (3, .imul, 0, 0, .null),
  (4, .iload_n 2, 2, 0, .null),
  (5, .iadd, 0, 0, .null),
  (6, .istore_n 3, 3, 0, .null),
  (7, .iconst 0, 0, 0, .int 0),
  (8, .istore 4, 4, 0, .null),
  (10, .iload 4, 4, 0, .null),
  (12, .bipush 16, 0, 0, .int 16),
  (14, .if_icmp .ge 28, 42, 0, .null),
  (17, .aload_n 0, 0, 0, .null),
  (18, .getfield 100, 37, 7, .null),
  (21, .iload 4, 4, 0, .null),
  (23, .aload_n 0, 0, 0, .null),
  (24, .getfield 72, 28, 7, .null),
  (27, .bipush 16, 0, 0, .int 16),
  (29, .iload_n 3, 3, 0, .null),
  (30, .imul, 0, 0, .null),
  (31, .iload 4, 4, 0, .null),
  (33, .iadd, 0, 0, .null),
  (34, .laload, 0, 0, .null),
  (35, .lastore, 0, 0, .null),
  (36, .iinc 4 1, 4, 0, .int 1),
  (39, .goto (-29), 10, 0, .null),
  (42, .iload_n 2, 2, 0, .null),
  (43, .aload_n 0, 0, 0, .null),
  (44, .getfield 29, 7, 7, .null),
  (47, .iload_n 1, 1, 0, .null),
  (48, .iaload, 0, 0, .null),
  (49, .if_icmp .eq 14, 63, 0, .null),
  (52, .aload_n 0, 0, 0, .null),
  (53, .getfield 32, 8, 7, .null),
  (56, .iload_n 3, 3, 0, .null),
  (57, .iaload, 0, 0, .null),
  (58, .bipush 8, 0, 0, .int 8),
  (60, .if_icmp .ne 9, 69, 0, .null),
  (63, .aload_n 0, 0, 0, .null),
  (64, .iload_n 1, 1, 0, .null),
  (65, .invokevirtual 218, 0, 0, .null),
  (68, .return_, 0, 0, .null),
  (69, .aload_n 0, 0, 0, .null),
  (70, .getfield 35, 9, 7, .null),
  (73, .iload_n 3, 3, 0, .null),
  (74, .iaload, 0, 0, .null),
  (75, .istore 4, 4, 0, .null),
  (77, .aload_n 0, 0, 0, .null),
  (78, .getfield 38, 10, 7, .null),
  (81, .iload_n 3, 3, 0, .null),
  (82, .iaload, 0, 0, .null),
  (83, .istore 5, 5, 0, .null),
  (85, .aload_n 0, 0, 0, .null),
  (86, .getfield 41, 11, 7, .null),
  (89, .iload_n 3, 3, 0, .null),
  (90, .iaload, 0, 0, .null),
  (91, .istore 6, 6, 0, .null),
  (93, .iconst 1, 0, 0, .int 1),
  (94, .istore 7, 7, 0, .null),
  (96, .aload_n 0, 0, 0, .null),
  (97, .getfield 32, 8, 7, .null),
  (100, .iload_n 3, 3, 0, .null),
  (101, .iaload, 0, 0, .null),
  (102, .tableswitch 406 0 11 #[62, 81, 81, 163, 182, 197, 252, 406, 406, 267, 300, 387], 0, 0, .null),
  (164, .aload_n 0, 0, 0, .null),
  (165, .invokevirtual 211, 0, 0, .null),
  (168, .aload_n 0, 0, 0, .null),
  (169, .iload 5, 5, 0, .null),
  (171, .invokevirtual 222, 0, 0, .null),
  (174, .aload_n 0, 0, 0, .null),
  (175, .iload 4, 4, 0, .null),
  (177, .invokevirtual 225, 0, 0, .null),
  (180, .goto 328, 508, 0, .null),
  (183, .aload_n 0, 0, 0, .null),
  (184, .invokevirtual 211, 0, 0, .null),
  (187, .iconst 0, 0, 0, .int 0),
  (188, .istore 8, 8, 0, .null),
  (190, .iload 8, 8, 0, .null),
  (192, .sipush 256, 0, 0, .int 256),
  (195, .if_icmp .ge 61, 256, 0, .null),
  (198, .aload_n 0, 0, 0, .null),
  (199, .aload_n 0, 0, 0, .null),
  (200, .getfield 100, 37, 7, .null),
  (203, .iconst 4, 0, 0, .int 4),
  (204, .iload 4, 4, 0, .null),
  (206, .imul, 0, 0, .null),
  (207, .iload 8, 8, 0, .null),
  (209, .invokevirtual 214, 0, 0, .null),
  (212, .ifCond .eq 38, 250, 0, .null),
  (215, .aload_n 0, 0, 0, .null),
  (216, .aload_n 0, 0, 0, .null),
  (217, .getfield 32, 8, 7, .null),
  (220, .iload_n 3, 3, 0, .null),
  (221, .iaload, 0, 0, .null),
  (222, .iconst 1, 0, 0, .int 1),
  (223, .if_icmp .ne 19, 242, 0, .null),
  (226, .iload 8, 8, 0, .null),
  (228, .iload 5, 5, 0, .null),
  (230, .iadd, 0, 0, .null),
  (231, .sipush 256, 0, 0, .int 256),
  (234, .iadd, 0, 0, .null),
  (235, .sipush 255, 0, 0, .int 255),
  (238, .iand, 0, 0, .null),
  (239, .goto 8, 247, 0, .null),
  (242, .iload 8, 8, 0, .null),
  (244, .iload 5, 5, 0, .null),
  (246, .iand, 0, 0, .null),
  (247, .invokevirtual 222, 0, 0, .null),
  (250, .iinc 8 1, 8, 0, .int 1),
  (253, .goto (-63), 190, 0, .null),
  (256, .aload_n 0, 0, 0, .null),
  (257, .iload 4, 4, 0, .null),
  (259, .invokevirtual 225, 0, 0, .null),
  (262, .goto 246, 508, 0, .null),
  (265, .aload_n 0, 0, 0, .null),
  (266, .iload 5, 5, 0, .null),
  (268, .iload 6, 6, 0, .null),
  (270, .invokevirtual 228, 0, 0, .null),
  (273, .istore 7, 7, 0, .null),
  (275, .aload_n 0, 0, 0, .null),
  (276, .iload 4, 4, 0, .null),
  (278, .invokevirtual 225, 0, 0, .null),
  (281, .goto 227, 508, 0, .null),
  (284, .aload_n 0, 0, 0, .null),
  (285, .iload 4, 4, 0, .null),
  (287, .iload 5, 5, 0, .null),
  (289, .iload 6, 6, 0, .null),
  (291, .invokevirtual 231, 0, 0, .null),
  (294, .istore 7, 7, 0, .null),
  (296, .goto 212, 508, 0, .null),
  (299, .aload_n 0, 0, 0, .null),
  (300, .iload 4, 4, 0, .null),
  (302, .iconst 0, 0, 0, .int 0),
  (303, .invokevirtual 234, 0, 0, .null),
  (306, .aload_n 0, 0, 0, .null),
  (307, .getfield 85, 32, 7, .null),
  (310, .iload 4, 4, 0, .null),
  (312, .baload, 0, 0, .null),
  (313, .istore 7, 7, 0, .null),
  (315, .iconst 0, 0, 0, .int 0),
  (316, .istore 8, 8, 0, .null),
  (318, .iload 8, 8, 0, .null),
  (320, .bipush 16, 0, 0, .int 16),
  (322, .if_icmp .ge 29, 351, 0, .null),
  (325, .aload_n 0, 0, 0, .null),
  (326, .getfield 100, 37, 7, .null),
  (329, .iload 8, 8, 0, .null),
  (331, .aload_n 0, 0, 0, .null),
  (332, .getfield 79, 30, 7, .null),
  (335, .bipush 16, 0, 0, .int 16),
  (337, .iload 4, 4, 0, .null),
  (339, .imul, 0, 0, .null),
  (340, .iload 8, 8, 0, .null),
  (342, .iadd, 0, 0, .null),
  (343, .laload, 0, 0, .null),
  (344, .lastore, 0, 0, .null),
  (345, .iinc 8 1, 8, 0, .int 1),
  (348, .goto (-30), 318, 0, .null),
  (351, .goto 157, 508, 0, .null),
  (354, .aload_n 0, 0, 0, .null),
  (355, .iload_n 1, 1, 0, .null),
  (356, .iload_n 2, 2, 0, .null),
  (357, .iload 4, 4, 0, .null),
  (359, .iload 5, 5, 0, .null),
  (361, .invokevirtual 238, 0, 0, .null),
  (364, .istore 7, 7, 0, .null),
  (366, .goto 142, 508, 0, .null),
  (369, .iconst 0, 0, 0, .int 0),
  (370, .istore 8, 8, 0, .null),
  (372, .iload 8, 8, 0, .null),
  (374, .iconst 4, 0, 0, .int 4),
  (375, .if_icmp .ge 24, 399, 0, .null),
  (378, .aload_n 0, 0, 0, .null),
  (379, .getfield 100, 37, 7, .null),
  (382, .iconst 4, 0, 0, .int 4),
  (383, .iload 4, 4, 0, .null),
  (385, .imul, 0, 0, .null),
  (386, .iload 8, 8, 0, .null),
  (388, .iadd, 0, 0, .null),
  (389, .ldc2_w 241, 0, 0, .long (-1)),
  (392, .lastore, 0, 0, .null),
  (393, .iinc 8 1, 8, 0, .int 1),
  (396, .goto (-24), 372, 0, .null),
  (399, .goto 109, 508, 0, .null),
  (402, .aload_n 0, 0, 0, .null),
  (403, .invokevirtual 211, 0, 0, .null),
  (406, .aload_n 0, 0, 0, .null),
  (407, .iload 5, 5, 0, .null),
  (409, .iload 6, 6, 0, .null),
  (411, .if_icmp .ne 7, 418, 0, .null),
  (414, .iconst 1, 0, 0, .int 1),
  (415, .goto 4, 419, 0, .null),
  (418, .iconst 0, 0, 0, .int 0),
  (419, .invokevirtual 222, 0, 0, .null),
  (422, .aload_n 0, 0, 0, .null),
  (423, .iload 4, 4, 0, .null),
  (425, .invokevirtual 225, 0, 0, .null),
  (428, .aload_n 0, 0, 0, .null),
  (429, .getfield 97, 36, 7, .null),
  (432, .iload 5, 5, 0, .null),
  (434, .aload_n 0, 0, 0, .null),
  (435, .getfield 97, 36, 7, .null),
  (438, .iload 5, 5, 0, .null),
  (440, .baload, 0, 0, .null),
  (441, .ifCond .ne 10, 451, 0, .null),
  (444, .iload 5, 5, 0, .null),
  (446, .iload 6, 6, 0, .null),
  (448, .if_icmp .eq 7, 455, 0, .null),
  (451, .iconst 1, 0, 0, .int 1),
  (452, .goto 4, 456, 0, .null),
  (455, .iconst 0, 0, 0, .int 0),
  (456, .bastore, 0, 0, .null),
  (457, .aload_n 0, 0, 0, .null),
  (458, .getfield 97, 36, 7, .null),
  (461, .iload 6, 6, 0, .null),
  (463, .aload_n 0, 0, 0, .null),
  (464, .getfield 97, 36, 7, .null),
  (467, .iload 6, 6, 0, .null),
  (469, .baload, 0, 0, .null),
  (470, .ifCond .ne 10, 480, 0, .null),
  (473, .iload 5, 5, 0, .null),
  (475, .iload 6, 6, 0, .null),
  (477, .if_icmp .eq 7, 484, 0, .null),
  (480, .iconst 1, 0, 0, .int 1),
  (481, .goto 4, 485, 0, .null),
  (484, .iconst 0, 0, 0, .int 0),
  (485, .bastore, 0, 0, .null),
  (486, .goto 22, 508, 0, .null),
  (489, .aload_n 0, 0, 0, .null),
  (490, .iload 5, 5, 0, .null),
  (492, .iload 6, 6, 0, .null),
  (494, .invokevirtual 243, 0, 0, .null),
  (497, .istore 7, 7, 0, .null),
  (499, .aload_n 0, 0, 0, .null),
  (500, .iload 4, 4, 0, .null),
  (502, .invokevirtual 225, 0, 0, .null),
  (505, .goto 3, 508, 0, .null),
  (508, .iload 7, 7, 0, .null),
  (510, .ifCond .eq 11, 521, 0, .null),
  (513, .aload_n 0, 0, 0, .null),
  (514, .iload_n 1, 1, 0, .null),
  (515, .iload_n 2, 2, 0, .null),
  (516, .iconst 1, 0, 0, .int 1),
  (517, .iadd, 0, 0, .null),
  (518, .invokevirtual 234, 0, 0, .null),
  (521, .return_, 0, 0, .null),
  (522, .nop, 0, 0, .null)]
def r_Mo_takes_0 : List xRw := [(0, .bipush 41, 0, 0, .int 41),
  (2, .iload_n 1, 1, 0, .null),
  (3, .imul, 0, 0, .null),
  (4, .iload_n 2, 2, 0, .null),
  (5, .iadd, 0, 0, .null),
  (6, .istore_n 3, 3, 0, .null),
  (7, .iconst 0, 0, 0, .int 0),
  (8, .istore 4, 4, 0, .null),
  (10, .iload 4, 4, 0, .null),
  (12, .bipush 16, 0, 0, .int 16),
  (14, .if_icmp .ge 28, 42, 0, .null),
  (17, .aload_n 0, 0, 0, .null),
  (18, .getfield 100, 37, 7, .null),
  (21, .iload 4, 4, 0, .null),
  (23, .aload_n 0, 0, 0, .null),
  (24, .getfield 72, 28, 7, .null),
  (27, .bipush 16, 0, 0, .int 16),
  (29, .iload_n 3, 3, 0, .null),
  (30, .imul, 0, 0, .null),
  (31, .iload 4, 4, 0, .null),
  (33, .iadd, 0, 0, .null),
  (34, .laload, 0, 0, .null),
  (35, .lastore, 0, 0, .null),
  (36, .iinc 4 1, 4, 0, .int 1),
  (39, .goto (-29), 10, 0, .null),
  (42, .iload_n 2, 2, 0, .null),
  (43, .aload_n 0, 0, 0, .null),
  (44, .getfield 29, 7, 7, .null),
  (47, .iload_n 1, 1, 0, .null),
  (48, .iaload, 0, 0, .null),
  (49, .if_icmp .eq 14, 63, 0, .null),
  (52, .aload_n 0, 0, 0, .null),
  (53, .getfield 32, 8, 7, .null),
  (56, .iload_n 3, 3, 0, .null),
  (57, .iaload, 0, 0, .null),
  (58, .bipush 8, 0, 0, .int 8),
  (60, .if_icmp .ne 9, 69, 0, .null),
  (63, .aload_n 0, 0, 0, .null),
  (64, .iload_n 1, 1, 0, .null),
  (65, .invokevirtual 218, 0, 0, .null),
  (68, .return_, 0, 0, .null),
  (69, .aload_n 0, 0, 0, .null),
  (70, .getfield 35, 9, 7, .null),
  (73, .iload_n 3, 3, 0, .null),
  (74, .iaload, 0, 0, .null),
  (75, .istore 4, 4, 0, .null),
  (77, .aload_n 0, 0, 0, .null),
  (78, .getfield 38, 10, 7, .null),
  (81, .iload_n 3, 3, 0, .null),
  (82, .iaload, 0, 0, .null),
  (83, .istore 5, 5, 0, .null),
  (85, .aload_n 0, 0, 0, .null),
  (86, .getfield 41, 11, 7, .null),
  (89, .iload_n 3, 3, 0, .null),
  (90, .iaload, 0, 0, .null),
  (91, .istore 6, 6, 0, .null),
  (93, .iconst 1, 0, 0, .int 1),
  (94, .istore 7, 7, 0, .null),
  (96, .aload_n 0, 0, 0, .null),
  (97, .getfield 32, 8, 7, .null)]
theorem o_Mo_takes_0 : xchk (yB y_Mo_takes) xk_Mo (r_Mo_takes_0 ++ [(100, .iload_n 3, 3, 0, .null)]) = true := by decide +kernel
def r_Mo_takes_1 : List xRw := [(100, .iload_n 3, 3, 0, .null),
  (101, .iaload, 0, 0, .null),
  (102, .tableswitch 406 0 11 #[62, 81, 81, 163, 182, 197, 252, 406, 406, 267, 300, 387], 0, 0, .null),
  (164, .aload_n 0, 0, 0, .null),
  (165, .invokevirtual 211, 0, 0, .null),
  (168, .aload_n 0, 0, 0, .null),
  (169, .iload 5, 5, 0, .null),
  (171, .invokevirtual 222, 0, 0, .null),
  (174, .aload_n 0, 0, 0, .null),
  (175, .iload 4, 4, 0, .null),
  (177, .invokevirtual 225, 0, 0, .null),
  (180, .goto 328, 508, 0, .null),
  (183, .aload_n 0, 0, 0, .null),
  (184, .invokevirtual 211, 0, 0, .null),
  (187, .iconst 0, 0, 0, .int 0),
  (188, .istore 8, 8, 0, .null),
  (190, .iload 8, 8, 0, .null),
  (192, .sipush 256, 0, 0, .int 256),
  (195, .if_icmp .ge 61, 256, 0, .null),
  (198, .aload_n 0, 0, 0, .null),
  (199, .aload_n 0, 0, 0, .null),
  (200, .getfield 100, 37, 7, .null),
  (203, .iconst 4, 0, 0, .int 4),
  (204, .iload 4, 4, 0, .null),
  (206, .imul, 0, 0, .null),
  (207, .iload 8, 8, 0, .null),
  (209, .invokevirtual 214, 0, 0, .null),
  (212, .ifCond .eq 38, 250, 0, .null),
  (215, .aload_n 0, 0, 0, .null),
  (216, .aload_n 0, 0, 0, .null),
  (217, .getfield 32, 8, 7, .null),
  (220, .iload_n 3, 3, 0, .null),
  (221, .iaload, 0, 0, .null),
  (222, .iconst 1, 0, 0, .int 1),
  (223, .if_icmp .ne 19, 242, 0, .null),
  (226, .iload 8, 8, 0, .null),
  (228, .iload 5, 5, 0, .null),
  (230, .iadd, 0, 0, .null),
  (231, .sipush 256, 0, 0, .int 256),
  (234, .iadd, 0, 0, .null),
  (235, .sipush 255, 0, 0, .int 255),
  (238, .iand, 0, 0, .null),
  (239, .goto 8, 247, 0, .null),
  (242, .iload 8, 8, 0, .null),
  (244, .iload 5, 5, 0, .null),
  (246, .iand, 0, 0, .null),
  (247, .invokevirtual 222, 0, 0, .null),
  (250, .iinc 8 1, 8, 0, .int 1),
  (253, .goto (-63), 190, 0, .null),
  (256, .aload_n 0, 0, 0, .null),
  (257, .iload 4, 4, 0, .null),
  (259, .invokevirtual 225, 0, 0, .null),
  (262, .goto 246, 508, 0, .null),
  (265, .aload_n 0, 0, 0, .null),
  (266, .iload 5, 5, 0, .null),
  (268, .iload 6, 6, 0, .null),
  (270, .invokevirtual 228, 0, 0, .null),
  (273, .istore 7, 7, 0, .null),
  (275, .aload_n 0, 0, 0, .null),
  (276, .iload 4, 4, 0, .null)]
theorem o_Mo_takes_1 : xchk (yB y_Mo_takes) xk_Mo (r_Mo_takes_1 ++ [(278, .invokevirtual 225, 0, 0, .null)]) = true := by decide +kernel
def r_Mo_takes_2 : List xRw := [(278, .invokevirtual 225, 0, 0, .null),
  (281, .goto 227, 508, 0, .null),
  (284, .aload_n 0, 0, 0, .null),
  (285, .iload 4, 4, 0, .null),
  (287, .iload 5, 5, 0, .null),
  (289, .iload 6, 6, 0, .null),
  (291, .invokevirtual 231, 0, 0, .null),
  (294, .istore 7, 7, 0, .null),
  (296, .goto 212, 508, 0, .null),
  (299, .aload_n 0, 0, 0, .null),
  (300, .iload 4, 4, 0, .null),
  (302, .iconst 0, 0, 0, .int 0),
  (303, .invokevirtual 234, 0, 0, .null),
  (306, .aload_n 0, 0, 0, .null),
  (307, .getfield 85, 32, 7, .null),
  (310, .iload 4, 4, 0, .null),
  (312, .baload, 0, 0, .null),
  (313, .istore 7, 7, 0, .null),
  (315, .iconst 0, 0, 0, .int 0),
  (316, .istore 8, 8, 0, .null),
  (318, .iload 8, 8, 0, .null),
  (320, .bipush 16, 0, 0, .int 16),
  (322, .if_icmp .ge 29, 351, 0, .null),
  (325, .aload_n 0, 0, 0, .null),
  (326, .getfield 100, 37, 7, .null),
  (329, .iload 8, 8, 0, .null),
  (331, .aload_n 0, 0, 0, .null),
  (332, .getfield 79, 30, 7, .null),
  (335, .bipush 16, 0, 0, .int 16),
  (337, .iload 4, 4, 0, .null),
  (339, .imul, 0, 0, .null),
  (340, .iload 8, 8, 0, .null),
  (342, .iadd, 0, 0, .null),
  (343, .laload, 0, 0, .null),
  (344, .lastore, 0, 0, .null),
  (345, .iinc 8 1, 8, 0, .int 1),
  (348, .goto (-30), 318, 0, .null),
  (351, .goto 157, 508, 0, .null),
  (354, .aload_n 0, 0, 0, .null),
  (355, .iload_n 1, 1, 0, .null),
  (356, .iload_n 2, 2, 0, .null),
  (357, .iload 4, 4, 0, .null),
  (359, .iload 5, 5, 0, .null),
  (361, .invokevirtual 238, 0, 0, .null),
  (364, .istore 7, 7, 0, .null),
  (366, .goto 142, 508, 0, .null),
  (369, .iconst 0, 0, 0, .int 0),
  (370, .istore 8, 8, 0, .null),
  (372, .iload 8, 8, 0, .null),
  (374, .iconst 4, 0, 0, .int 4),
  (375, .if_icmp .ge 24, 399, 0, .null),
  (378, .aload_n 0, 0, 0, .null),
  (379, .getfield 100, 37, 7, .null),
  (382, .iconst 4, 0, 0, .int 4),
  (383, .iload 4, 4, 0, .null),
  (385, .imul, 0, 0, .null),
  (386, .iload 8, 8, 0, .null),
  (388, .iadd, 0, 0, .null),
  (389, .ldc2_w 241, 0, 0, .long (-1)),
  (392, .lastore, 0, 0, .null)]
theorem o_Mo_takes_2 : xchk (yB y_Mo_takes) xk_Mo (r_Mo_takes_2 ++ [(393, .iinc 8 1, 8, 0, .int 1)]) = true := by decide +kernel
def r_Mo_takes_3 : List xRw := [(393, .iinc 8 1, 8, 0, .int 1),
  (396, .goto (-24), 372, 0, .null),
  (399, .goto 109, 508, 0, .null),
  (402, .aload_n 0, 0, 0, .null),
  (403, .invokevirtual 211, 0, 0, .null),
  (406, .aload_n 0, 0, 0, .null),
  (407, .iload 5, 5, 0, .null),
  (409, .iload 6, 6, 0, .null),
  (411, .if_icmp .ne 7, 418, 0, .null),
  (414, .iconst 1, 0, 0, .int 1),
  (415, .goto 4, 419, 0, .null),
  (418, .iconst 0, 0, 0, .int 0),
  (419, .invokevirtual 222, 0, 0, .null),
  (422, .aload_n 0, 0, 0, .null),
  (423, .iload 4, 4, 0, .null),
  (425, .invokevirtual 225, 0, 0, .null),
  (428, .aload_n 0, 0, 0, .null),
  (429, .getfield 97, 36, 7, .null),
  (432, .iload 5, 5, 0, .null),
  (434, .aload_n 0, 0, 0, .null),
  (435, .getfield 97, 36, 7, .null),
  (438, .iload 5, 5, 0, .null),
  (440, .baload, 0, 0, .null),
  (441, .ifCond .ne 10, 451, 0, .null),
  (444, .iload 5, 5, 0, .null),
  (446, .iload 6, 6, 0, .null),
  (448, .if_icmp .eq 7, 455, 0, .null),
  (451, .iconst 1, 0, 0, .int 1),
  (452, .goto 4, 456, 0, .null),
  (455, .iconst 0, 0, 0, .int 0),
  (456, .bastore, 0, 0, .null),
  (457, .aload_n 0, 0, 0, .null),
  (458, .getfield 97, 36, 7, .null),
  (461, .iload 6, 6, 0, .null),
  (463, .aload_n 0, 0, 0, .null),
  (464, .getfield 97, 36, 7, .null),
  (467, .iload 6, 6, 0, .null),
  (469, .baload, 0, 0, .null),
  (470, .ifCond .ne 10, 480, 0, .null),
  (473, .iload 5, 5, 0, .null),
  (475, .iload 6, 6, 0, .null),
  (477, .if_icmp .eq 7, 484, 0, .null),
  (480, .iconst 1, 0, 0, .int 1),
  (481, .goto 4, 485, 0, .null),
  (484, .iconst 0, 0, 0, .int 0),
  (485, .bastore, 0, 0, .null),
  (486, .goto 22, 508, 0, .null),
  (489, .aload_n 0, 0, 0, .null),
  (490, .iload 5, 5, 0, .null),
  (492, .iload 6, 6, 0, .null),
  (494, .invokevirtual 243, 0, 0, .null),
  (497, .istore 7, 7, 0, .null),
  (499, .aload_n 0, 0, 0, .null),
  (500, .iload 4, 4, 0, .null),
  (502, .invokevirtual 225, 0, 0, .null),
  (505, .goto 3, 508, 0, .null),
  (508, .iload 7, 7, 0, .null),
  (510, .ifCond .eq 11, 521, 0, .null),
  (513, .aload_n 0, 0, 0, .null),
  (514, .iload_n 1, 1, 0, .null)]
theorem o_Mo_takes_3 : xchk (yB y_Mo_takes) xk_Mo (r_Mo_takes_3 ++ [(515, .iload_n 2, 2, 0, .null)]) = true := by decide +kernel
def r_Mo_takes_4 : List xRw := [(515, .iload_n 2, 2, 0, .null),
  (516, .iconst 1, 0, 0, .int 1),
  (517, .iadd, 0, 0, .null),
  (518, .invokevirtual 234, 0, 0, .null),
  (521, .return_, 0, 0, .null),
  (522, .nop, 0, 0, .null)]
theorem o_Mo_takes_4 : xchk (yB y_Mo_takes) xk_Mo (r_Mo_takes_4) = true := by decide +kernel
set_option maxRecDepth 20000 in
theorem o_Mo_takes : xOK y_Mo_takes xk_Mo r_Mo_takes := ⟨xk_Mo_ok, (xchk_app r_Mo_takes_0 _ _ o_Mo_takes_0 (xchk_app r_Mo_takes_1 _ _ o_Mo_takes_1 (xchk_app r_Mo_takes_2 _ _ o_Mo_takes_2 (xchk_app r_Mo_takes_3 _ _ o_Mo_takes_3 o_Mo_takes_4))))⟩
def y_Mo_returned : xMD := (⟨"DataShrinkerModel", "returned", "(I)V"⟩, prog_10_method_24_code, 5, none, { frames := 0, cells := 0, slots := 0, locals := 0 })
def r_Mo_returned : List xRw := [(0, .aload_n 0, 0, 0, .null),
  (1, .aload_n 0, 0, 0, .null),
  (2, .getfield 208, 39, 7, .null),
  (5, .ifCond .ne 12, 17, 0, .null),
  (8, .aload_n 0, 0, 0, .null),
  (9, .getfield 85, 32, 7, .null),
  (12, .iload_n 1, 1, 0, .null),
  (13, .baload, 0, 0, .null),
  (14, .ifCond .ne 7, 21, 0, .null),
  (17, .iconst 1, 0, 0, .int 1),
  (18, .goto 4, 22, 0, .null),
  (21, .iconst 0, 0, 0, .int 0),
  (22, .putfield 208, 39, 7, .long 0),
  (25, .aload_n 0, 0, 0, .null),
  (26, .getfield 85, 32, 7, .null),
  (29, .iload_n 1, 1, 0, .null),
  (30, .iconst 1, 0, 0, .int 1),
  (31, .bastore, 0, 0, .null),
  (32, .iconst 0, 0, 0, .int 0),
  (33, .istore_n 2, 2, 0, .null),
  (34, .iload_n 2, 2, 0, .null),
  (35, .bipush 16, 0, 0, .int 16),
  (37, .if_icmp .ge 72, 109, 0, .null),
  (40, .aload_n 0, 0, 0, .null),
  (41, .getfield 79, 30, 7, .null),
  (44, .bipush 16, 0, 0, .int 16),
  (46, .iload_n 1, 1, 0, .null),
  (47, .imul, 0, 0, .null),
  (48, .iload_n 2, 2, 0, .null),
  (49, .iadd, 0, 0, .null),
  (50, .laload, 0, 0, .null),
  (51, .aload_n 0, 0, 0, .null),
  (52, .getfield 100, 37, 7, .null),
  (55, .iload_n 2, 2, 0, .null),
  (56, .laload, 0, 0, .null),
  (57, .lor, 0, 0, .null),
  (58, .lstore_n 3, 3, 0, .null),
  (59, .aload_n 0, 0, 0, .null),
  (60, .aload_n 0, 0, 0, .null),
  (61, .getfield 208, 39, 7, .null),
  (64, .ifCond .ne 19, 83, 0, .null),
  (67, .lload_n 3, 3, 0, .null),
  (68, .aload_n 0, 0, 0, .null),
  (69, .getfield 79, 30, 7, .null),
  (72, .bipush 16, 0, 0, .int 16),
  (74, .iload_n 1, 1, 0, .null),
  (75, .imul, 0, 0, .null),
  (76, .iload_n 2, 2, 0, .null),
  (77, .iadd, 0, 0, .null),
  (78, .laload, 0, 0, .null),
  (79, .lcmp, 0, 0, .null),
  (80, .ifCond .eq 7, 87, 0, .null),
  (83, .iconst 1, 0, 0, .int 1),
  (84, .goto 4, 88, 0, .null),
  (87, .iconst 0, 0, 0, .int 0),
  (88, .putfield 208, 39, 7, .long 0),
  (91, .aload_n 0, 0, 0, .null),
  (92, .getfield 79, 30, 7, .null),
  (95, .bipush 16, 0, 0, .int 16),
  (97, .iload_n 1, 1, 0, .null),
  (98, .imul, 0, 0, .null),
  (99, .iload_n 2, 2, 0, .null),
  (100, .iadd, 0, 0, .null),
  (101, .lload_n 3, 3, 0, .null),
  (102, .lastore, 0, 0, .null),
  (103, .iinc 2 1, 2, 0, .int 1),
  (106, .goto (-72), 34, 0, .null),
  (109, .return_, 0, 0, .null),
  (110, .nop, 0, 0, .null)]
theorem o_Mo_returned : xOK y_Mo_returned xk_Mo r_Mo_returned := ⟨xk_Mo_ok, by decide +kernel⟩
def y_Mo_empty : xMD := (⟨"DataShrinkerModel", "empty", "()V"⟩, prog_10_method_25_code, 2, none, { frames := 0, cells := 0, slots := 0, locals := 0 })
def r_Mo_empty : List xRw := [(0, .iconst 0, 0, 0, .int 0),
  (1, .istore_n 1, 1, 0, .null),
  (2, .iload_n 1, 1, 0, .null),
  (3, .iconst 4, 0, 0, .int 4),
  (4, .if_icmp .ge 16, 20, 0, .null),
  (7, .aload_n 0, 0, 0, .null),
  (8, .getfield 103, 38, 7, .null),
  (11, .iload_n 1, 1, 0, .null),
  (12, .lconst 0, 0, 0, .long 0),
  (13, .lastore, 0, 0, .null),
  (14, .iinc 1 1, 1, 0, .int 1),
  (17, .goto (-15), 2, 0, .null),
  (20, .return_, 0, 0, .null),
  (21, .nop, 0, 0, .null)]
theorem o_Mo_empty : xOK y_Mo_empty xk_Mo r_Mo_empty := ⟨xk_Mo_ok, by decide +kernel⟩
def y_Mo_put : xMD := (⟨"DataShrinkerModel", "put", "(I)V"⟩, prog_10_method_26_code, 2, none, { frames := 0, cells := 0, slots := 0, locals := 0 })
def r_Mo_put : List xRw := [(0, .aload_n 0, 0, 0, .null),
  (1, .getfield 103, 38, 7, .null),
  (4, .iload_n 1, 1, 0, .null),
  (5, .bipush 6, 0, 0, .int 6),
  (7, .ishr, 0, 0, .null),
  (8, .dup2, 0, 0, .null),
  (9, .laload, 0, 0, .null),
  (10, .lconst 1, 0, 0, .long 1),
  (11, .iload_n 1, 1, 0, .null),
  (12, .bipush 63, 0, 0, .int 63),
  (14, .iand, 0, 0, .null),
  (15, .lshl, 0, 0, .null),
  (16, .lor, 0, 0, .null),
  (17, .lastore, 0, 0, .null),
  (18, .return_, 0, 0, .null),
  (19, .nop, 0, 0, .null)]
theorem o_Mo_put : xOK y_Mo_put xk_Mo r_Mo_put := ⟨xk_Mo_ok, by decide +kernel⟩
def y_Mo_gets : xMD := (⟨"DataShrinkerModel", "gets", "(I)V"⟩, prog_10_method_27_code, 3, none, { frames := 0, cells := 0, slots := 0, locals := 0 })
def r_Mo_gets : List xRw := [(0, .iconst 0, 0, 0, .int 0),
  (1, .istore_n 2, 2, 0, .null),
  (2, .iload_n 2, 2, 0, .null),
  (3, .iconst 4, 0, 0, .int 4),
  (4, .if_icmp .ge 25, 29, 0, .null),
  (7, .aload_n 0, 0, 0, .null),
  (8, .getfield 100, 37, 7, .null),
  (11, .iconst 4, 0, 0, .int 4),
  (12, .iload_n 1, 1, 0, .null),
  (13, .imul, 0, 0, .null),
  (14, .iload_n 2, 2, 0, .null),
  (15, .iadd, 0, 0, .null),
  (16, .aload_n 0, 0, 0, .null),
  (17, .getfield 103, 38, 7, .null),
  (20, .iload_n 2, 2, 0, .null),
  (21, .laload, 0, 0, .null),
  (22, .lastore, 0, 0, .null),
  (23, .iinc 2 1, 2, 0, .int 1),
  (26, .goto (-24), 2, 0, .null),
  (29, .return_, 0, 0, .null),
  (30, .nop, 0, 0, .null)]
theorem o_Mo_gets : xOK y_Mo_gets xk_Mo r_Mo_gets := ⟨xk_Mo_ok, by decide +kernel⟩
def y_Mo_hasValue : xMD := (⟨"DataShrinkerModel", "hasValue", "([JII)Z"⟩, prog_10_method_22_code, 4, (some .boolean), { frames := 0, cells := 0, slots := 0, locals := 0 })
def r_Mo_hasValue : List xRw := [(0, .aload_n 1, 1, 0, .null),
  (1, .iload_n 2, 2, 0, .null),
  (2, .iload_n 3, 3, 0, .null),
  (3, .bipush 6, 0, 0, .int 6),
  (5, .ishr, 0, 0, .null),
  (6, .iadd, 0, 0, .null),
  (7, .laload, 0, 0, .null),
  (8, .iload_n 3, 3, 0, .null),
  (9, .bipush 63, 0, 0, .int 63),
  (11, .iand, 0, 0, .null),
  (12, .lshr, 0, 0, .null),
  (13, .lconst 1, 0, 0, .long 1),
  (14, .land, 0, 0, .null),
  (15, .lconst 1, 0, 0, .long 1),
  (16, .lcmp, 0, 0, .null),
  (17, .ifCond .ne 7, 24, 0, .null),
  (20, .iconst 1, 0, 0, .int 1),
  (21, .goto 4, 25, 0, .null),
  (24, .iconst 0, 0, 0, .int 0),
  (25, .ireturn, 0, 0, .null),
  (26, .nop, 0, 0, .null)]
theorem o_Mo_hasValue : xOK y_Mo_hasValue xk_Mo r_Mo_hasValue := ⟨xk_Mo_ok, by decide +kernel⟩
def y_Mo_loads : xMD := (⟨"DataShrinkerModel", "loads", "(II)Z"⟩, prog_10_method_28_code, 6, (some .boolean), { frames := 1, cells := 0, slots := 0, locals := 23 })
def r_Mo_loads : List xRw := [(0, .aload_n 0, 0, 0, .null),
  (1, .invokevirtual 211, 0, 0, .null),
  (4, .iconst 0, 0, 0, .int 0),
  (5, .istore_n 3, 3, 0, .null),
  (6, .iconst 0, 0, 0, .int 0),
  (7, .istore 4, 4, 0, .null),
  (9, .iload 4, 4, 0, .null),
  (11, .aload_n 0, 0, 0, .null),
  (12, .getfield 9, 1, 7, .null),
  (15, .iload_n 1, 1, 0, .null),
  (16, .iaload, 0, 0, .null),
  (17, .if_icmp .ge 82, 99, 0, .null),
  (20, .aload_n 0, 0, 0, .null),
  (21, .aload_n 0, 0, 0, .null),
  (22, .getfield 100, 37, 7, .null),
  (25, .iconst 4, 0, 0, .int 4),
  (26, .iload_n 2, 2, 0, .null),
  (27, .imul, 0, 0, .null),
  (28, .iload 4, 4, 0, .null),
  (30, .invokevirtual 214, 0, 0, .null),
  (33, .ifCond .eq 60, 93, 0, .null),
  (36, .iconst 1, 0, 0, .int 1),
  (37, .istore_n 3, 3, 0, .null),
  (38, .aload_n 0, 0, 0, .null),
  (39, .getfield 88, 33, 7, .null),
  (42, .bipush 64, 0, 0, .int 64),
  (44, .iload_n 1, 1, 0, .null),
  (45, .imul, 0, 0, .null),
  (46, .iload 4, 4, 0, .null),
  (48, .iadd, 0, 0, .null),
  (49, .iconst 1, 0, 0, .int 1),
  (50, .bastore, 0, 0, .null),
  (51, .iconst 0, 0, 0, .int 0),
  (52, .istore 5, 5, 0, .null),
  (54, .iload 5, 5, 0, .null),
  (56, .iconst 4, 0, 0, .int 4),
  (57, .if_icmp .ge 36, 93, 0, .null),
  (60, .aload_n 0, 0, 0, .null),
  (61, .getfield 103, 38, 7, .null),
  (64, .iload 5, 5, 0, .null),
  (66, .dup2, 0, 0, .null),
  (67, .laload, 0, 0, .null),
  (68, .aload_n 0, 0, 0, .null),
  (69, .getfield 76, 29, 7, .null),
  (72, .iconst 4, 0, 0, .int 4),
  (73, .bipush 64, 0, 0, .int 64),
  (75, .iload_n 1, 1, 0, .null),
  (76, .imul, 0, 0, .null),
  (77, .iload 4, 4, 0, .null),
  (79, .iadd, 0, 0, .null),
  (80, .imul, 0, 0, .null),
  (81, .iload 5, 5, 0, .null),
  (83, .iadd, 0, 0, .null),
  (84, .laload, 0, 0, .null),
  (85, .lor, 0, 0, .null),
  (86, .lastore, 0, 0, .null),
  (87, .iinc 5 1, 5, 0, .int 1),
  (90, .goto (-36), 54, 0, .null),
  (93, .iinc 4 1, 4, 0, .int 1),
  (96, .goto (-87), 9, 0, .null),
  (99, .iload_n 3, 3, 0, .null),
  (100, .ireturn, 0, 0, .null),
  (101, .nop, 0, 0, .null)]
theorem o_Mo_loads : xOK y_Mo_loads xk_Mo r_Mo_loads := ⟨xk_Mo_ok, by decide +kernel⟩
def y_Mo_stores : xMD := (⟨"DataShrinkerModel", "stores", "(III)Z"⟩, prog_10_method_29_code, 10, (some .boolean), { frames := 1, cells := 0, slots := 0, locals := 23 })
def r_Mo_stores : List xRw := [(0, .iconst 0, 0, 0, .int 0),
  (1, .istore 4, 4, 0, .null),
  (3, .iconst 0, 0, 0, .int 0),
  (4, .istore 5, 5, 0, .null),
  (6, .iload 5, 5, 0, .null),
  (8, .aload_n 0, 0, 0, .null),
  (9, .getfield 9, 1, 7, .null),
  (12, .iload_n 1, 1, 0, .null),
  (13, .iaload, 0, 0, .null),
  (14, .if_icmp .ge 116, 130, 0, .null),
  (17, .aload_n 0, 0, 0, .null),
  (18, .aload_n 0, 0, 0, .null),
  (19, .getfield 100, 37, 7, .null),
  (22, .iconst 4, 0, 0, .int 4),
  (23, .iload_n 2, 2, 0, .null),
  (24, .imul, 0, 0, .null),
  (25, .iload 5, 5, 0, .null),
  (27, .invokevirtual 214, 0, 0, .null),
  (30, .ifCond .eq 94, 124, 0, .null),
  (33, .iconst 1, 0, 0, .int 1),
  (34, .istore 4, 4, 0, .null),
  (36, .iconst 0, 0, 0, .int 0),
  (37, .istore 6, 6, 0, .null),
  (39, .iload 6, 6, 0, .null),
  (41, .iconst 4, 0, 0, .int 4),
  (42, .if_icmp .ge 82, 124, 0, .null),
  (45, .iconst 4, 0, 0, .int 4),
  (46, .bipush 64, 0, 0, .int 64),
  (48, .iload_n 1, 1, 0, .null),
  (49, .imul, 0, 0, .null),
  (50, .iload 5, 5, 0, .null),
  (52, .iadd, 0, 0, .null),
  (53, .imul, 0, 0, .null),
  (54, .iload 6, 6, 0, .null),
  (56, .iadd, 0, 0, .null),
  (57, .istore 7, 7, 0, .null),
  (59, .aload_n 0, 0, 0, .null),
  (60, .getfield 76, 29, 7, .null),
  (63, .iload 7, 7, 0, .null),
  (65, .laload, 0, 0, .null),
  (66, .aload_n 0, 0, 0, .null),
  (67, .getfield 100, 37, 7, .null),
  (70, .iconst 4, 0, 0, .int 4),
  (71, .iload_n 3, 3, 0, .null),
  (72, .imul, 0, 0, .null),
  (73, .iload 6, 6, 0, .null),
  (75, .iadd, 0, 0, .null),
  (76, .laload, 0, 0, .null),
  (77, .lor, 0, 0, .null),
  (78, .lstore 8, 8, 0, .null),
  (80, .aload_n 0, 0, 0, .null),
  (81, .aload_n 0, 0, 0, .null),
  (82, .getfield 208, 39, 7, .null),
  (85, .ifCond .ne 16, 101, 0, .null),
  (88, .lload 8, 8, 0, .null),
  (90, .aload_n 0, 0, 0, .null),
  (91, .getfield 76, 29, 7, .null),
  (94, .iload 7, 7, 0, .null),
  (96, .laload, 0, 0, .null),
  (97, .lcmp, 0, 0, .null),
  (98, .ifCond .eq 7, 105, 0, .null),
  (101, .iconst 1, 0, 0, .int 1),
  (102, .goto 4, 106, 0, .null),
  (105, .iconst 0, 0, 0, .int 0),
  (106, .putfield 208, 39, 7, .long 0),
  (109, .aload_n 0, 0, 0, .null),
  (110, .getfield 76, 29, 7, .null),
  (113, .iload 7, 7, 0, .null),
  (115, .lload 8, 8, 0, .null),
  (117, .lastore, 0, 0, .null),
  (118, .iinc 6 1, 6, 0, .int 1),
  (121, .goto (-82), 39, 0, .null),
  (124, .iinc 5 1, 5, 0, .int 1),
  (127, .goto (-121), 6, 0, .null),
  (130, .aload_n 0, 0, 0, .null),
  (131, .getfield 94, 35, 7, .null),
  (134, .iload_n 1, 1, 0, .null),
  (135, .aload_n 0, 0, 0, .null),
  (136, .getfield 94, 35, 7, .null),
  (139, .iload_n 1, 1, 0, .null),
  (140, .baload, 0, 0, .null),
  (141, .ifCond .ne 8, 149, 0, .null),
  (144, .iload 4, 4, 0, .null),
  (146, .ifCond .eq 7, 153, 0, .null),
  (149, .iconst 1, 0, 0, .int 1),
  (150, .goto 4, 154, 0, .null),
  (153, .iconst 0, 0, 0, .int 0),
  (154, .bastore, 0, 0, .null),
  (155, .iload 4, 4, 0, .null),
  (157, .ireturn, 0, 0, .null),
  (158, .nop, 0, 0, .null)]
theorem o_Mo_stores : xOK y_Mo_stores xk_Mo r_Mo_stores := ⟨xk_Mo_ok, by decide +kernel⟩
def y_Mo_skips : xMD := (⟨"DataShrinkerModel", "skips", "(IIII)Z"⟩, prog_10_method_32_code, 6, (some .boolean), { frames := 1, cells := 0, slots := 0, locals := 27 })
def r_Mo_skips : List xRw := [(0, .iconst 0, 0, 0, .int 0),
  (1, .istore 5, 5, 0, .null),
  (3, .iload 5, 5, 0, .null),
  (5, .iconst 4, 0, 0, .int 4),
  (6, .if_icmp .ge 27, 33, 0, .null),
  (9, .aload_n 0, 0, 0, .null),
  (10, .getfield 103, 38, 7, .null),
  (13, .iload 5, 5, 0, .null),
  (15, .aload_n 0, 0, 0, .null),
  (16, .getfield 100, 37, 7, .null),
  (19, .iconst 4, 0, 0, .int 4),
  (20, .iload_n 3, 3, 0, .null),
  (21, .imul, 0, 0, .null),
  (22, .iload 5, 5, 0, .null),
  (24, .iadd, 0, 0, .null),
  (25, .laload, 0, 0, .null),
  (26, .lastore, 0, 0, .null),
  (27, .iinc 5 1, 5, 0, .int 1),
  (30, .goto (-27), 3, 0, .null),
  (33, .aload_n 0, 0, 0, .null),
  (34, .getfield 103, 38, 7, .null),
  (37, .iconst 0, 0, 0, .int 0),
  (38, .laload, 0, 0, .null),
  (39, .lconst 1, 0, 0, .long 1),
  (40, .land, 0, 0, .null),
  (41, .lconst 1, 0, 0, .long 1),
  (42, .lcmp, 0, 0, .null),
  (43, .ifCond .ne 97, 140, 0, .null),
  (46, .iconst 0, 0, 0, .int 0),
  (47, .istore 5, 5, 0, .null),
  (49, .iload 5, 5, 0, .null),
  (51, .iconst 4, 0, 0, .int 4),
  (52, .if_icmp .ge 30, 82, 0, .null),
  (55, .aload_n 0, 0, 0, .null),
  (56, .getfield 100, 37, 7, .null),
  (59, .iconst 4, 0, 0, .int 4),
  (60, .iload_n 3, 3, 0, .null),
  (61, .imul, 0, 0, .null),
  (62, .iload 5, 5, 0, .null),
  (64, .iadd, 0, 0, .null),
  (65, .iload 5, 5, 0, .null),
  (67, .ifCond .ne 7, 74, 0, .null),
  (70, .lconst 1, 0, 0, .long 1),
  (71, .goto 4, 75, 0, .null),
  (74, .lconst 0, 0, 0, .long 0),
  (75, .lastore, 0, 0, .null),
  (76, .iinc 5 1, 5, 0, .int 1),
  (79, .goto (-30), 49, 0, .null),
  (82, .aload_n 0, 0, 0, .null),
  (83, .iload_n 1, 1, 0, .null),
  (84, .iload_n 2, 2, 0, .null),
  (85, .iload 4, 4, 0, .null),
  (87, .iadd, 0, 0, .null),
  (88, .iconst 1, 0, 0, .int 1),
  (89, .iadd, 0, 0, .null),
  (90, .invokevirtual 234, 0, 0, .null),
  (93, .iconst 0, 0, 0, .int 0),
  (94, .istore 5, 5, 0, .null),
  (96, .iload 5, 5, 0, .null),
  (98, .iconst 4, 0, 0, .int 4),
  (99, .if_icmp .ge 27, 126, 0, .null),
  (102, .aload_n 0, 0, 0, .null),
  (103, .getfield 100, 37, 7, .null),
  (106, .iconst 4, 0, 0, .int 4),
  (107, .iload_n 3, 3, 0, .null),
  (108, .imul, 0, 0, .null),
  (109, .iload 5, 5, 0, .null),
  (111, .iadd, 0, 0, .null),
  (112, .aload_n 0, 0, 0, .null),
  (113, .getfield 103, 38, 7, .null),
  (116, .iload 5, 5, 0, .null),
  (118, .laload, 0, 0, .null),
  (119, .lastore, 0, 0, .null),
  (120, .iinc 5 1, 5, 0, .int 1),
  (123, .goto (-27), 96, 0, .null),
  (126, .aload_n 0, 0, 0, .null),
  (127, .getfield 100, 37, 7, .null),
  (130, .iconst 4, 0, 0, .int 4),
  (131, .iload_n 3, 3, 0, .null),
  (132, .imul, 0, 0, .null),
  (133, .dup2, 0, 0, .null),
  (134, .laload, 0, 0, .null),
  (135, .ldc2_w 246, 0, 0, .long (-2)),
  (138, .land, 0, 0, .null),
  (139, .lastore, 0, 0, .null),
  (140, .aload_n 0, 0, 0, .null),
  (141, .getfield 100, 37, 7, .null),
  (144, .iconst 4, 0, 0, .int 4),
  (145, .iload_n 3, 3, 0, .null),
  (146, .imul, 0, 0, .null),
  (147, .laload, 0, 0, .null),
  (148, .aload_n 0, 0, 0, .null),
  (149, .getfield 100, 37, 7, .null),
  (152, .iconst 4, 0, 0, .int 4),
  (153, .iload_n 3, 3, 0, .null),
  (154, .imul, 0, 0, .null),
  (155, .iconst 1, 0, 0, .int 1),
  (156, .iadd, 0, 0, .null),
  (157, .laload, 0, 0, .null),
  (158, .lor, 0, 0, .null),
  (159, .aload_n 0, 0, 0, .null),
  (160, .getfield 100, 37, 7, .null),
  (163, .iconst 4, 0, 0, .int 4),
  (164, .iload_n 3, 3, 0, .null),
  (165, .imul, 0, 0, .null),
  (166, .iconst 2, 0, 0, .int 2),
  (167, .iadd, 0, 0, .null),
  (168, .laload, 0, 0, .null),
  (169, .lor, 0, 0, .null),
  (170, .aload_n 0, 0, 0, .null),
  (171, .getfield 100, 37, 7, .null),
  (174, .iconst 4, 0, 0, .int 4),
  (175, .iload_n 3, 3, 0, .null),
  (176, .imul, 0, 0, .null),
  (177, .iconst 3, 0, 0, .int 3),
  (178, .iadd, 0, 0, .null),
  (179, .laload, 0, 0, .null),
  (180, .lor, 0, 0, .null),
  (181, .lconst 0, 0, 0, .long 0),
  (182, .lcmp, 0, 0, .null),
  (183, .ifCond .eq 7, 190, 0, .null),
  (186, .iconst 1, 0, 0, .int 1),
  (187, .goto 4, 191, 0, .null),
  (190, .iconst 0, 0, 0, .int 0),
  (191, .ireturn, 0, 0, .null),
  (192, .nop, 0, 0, .null)]
theorem o_Mo_skips : xOK y_Mo_skips xk_Mo r_Mo_skips := ⟨xk_Mo_ok, by decide +kernel⟩
def y_Mo_follows : xMD := (⟨"DataShrinkerModel", "follows", "(II)Z"⟩, prog_10_method_30_code, 7, (some .boolean), { frames := 1, cells := 0, slots := 0, locals := 23 })
def r_Mo_follows : List xRw := [(0, .aload_n 0, 0, 0, .null),
  (1, .invokevirtual 211, 0, 0, .null),
  (4, .iconst 0, 0, 0, .int 0),
  (5, .istore_n 3, 3, 0, .null),
  (6, .iconst 0, 0, 0, .int 0),
  (7, .istore 4, 4, 0, .null),
  (9, .iload 4, 4, 0, .null),
  (11, .aload_n 0, 0, 0, .null),
  (12, .getfield 9, 1, 7, .null),
  (15, .iload_n 1, 1, 0, .null),
  (16, .iaload, 0, 0, .null),
  (17, .if_icmp .ge 123, 140, 0, .null),
  (20, .aload_n 0, 0, 0, .null),
  (21, .getfield 22, 5, 7, .null),
  (24, .bipush 64, 0, 0, .int 64),
  (26, .iload_n 1, 1, 0, .null),
  (27, .imul, 0, 0, .null),
  (28, .iload 4, 4, 0, .null),
  (30, .iadd, 0, 0, .null),
  (31, .iaload, 0, 0, .null),
  (32, .istore 5, 5, 0, .null),
  (34, .iload 5, 5, 0, .null),
  (36, .iconst (-1), 0, 0, .int (-1)),
  (37, .if_icmp .eq 97, 134, 0, .null),
  (40, .aload_n 0, 0, 0, .null),
  (41, .aload_n 0, 0, 0, .null),
  (42, .getfield 100, 37, 7, .null),
  (45, .iconst 4, 0, 0, .int 4),
  (46, .iload_n 2, 2, 0, .null),
  (47, .imul, 0, 0, .null),
  (48, .iload 4, 4, 0, .null),
  (50, .invokevirtual 214, 0, 0, .null),
  (53, .ifCond .eq 81, 134, 0, .null),
  (56, .iconst 1, 0, 0, .int 1),
  (57, .istore_n 3, 3, 0, .null),
  (58, .aload_n 0, 0, 0, .null),
  (59, .getfield 88, 33, 7, .null),
  (62, .bipush 64, 0, 0, .int 64),
  (64, .iload_n 1, 1, 0, .null),
  (65, .imul, 0, 0, .null),
  (66, .iload 4, 4, 0, .null),
  (68, .iadd, 0, 0, .null),
  (69, .iconst 1, 0, 0, .int 1),
  (70, .bastore, 0, 0, .null),
  (71, .aload_n 0, 0, 0, .null),
  (72, .getfield 91, 34, 7, .null),
  (75, .bipush 64, 0, 0, .int 64),
  (77, .iload_n 1, 1, 0, .null),
  (78, .imul, 0, 0, .null),
  (79, .iload 4, 4, 0, .null),
  (81, .iadd, 0, 0, .null),
  (82, .iconst 1, 0, 0, .int 1),
  (83, .bastore, 0, 0, .null),
  (84, .aload_n 0, 0, 0, .null),
  (85, .getfield 88, 33, 7, .null),
  (88, .bipush 64, 0, 0, .int 64),
  (90, .iload 5, 5, 0, .null),
  (92, .imul, 0, 0, .null),
  (93, .iconst 1, 0, 0, .int 1),
  (94, .bastore, 0, 0, .null),
  (95, .iconst 0, 0, 0, .int 0),
  (96, .istore 6, 6, 0, .null),
  (98, .iload 6, 6, 0, .null),
  (100, .iconst 4, 0, 0, .int 4),
  (101, .if_icmp .ge 33, 134, 0, .null),
  (104, .aload_n 0, 0, 0, .null),
  (105, .getfield 103, 38, 7, .null),
  (108, .iload 6, 6, 0, .null),
  (110, .dup2, 0, 0, .null),
  (111, .laload, 0, 0, .null),
  (112, .aload_n 0, 0, 0, .null),
  (113, .getfield 76, 29, 7, .null),
  (116, .sipush 256, 0, 0, .int 256),
  (119, .iload 5, 5, 0, .null),
  (121, .imul, 0, 0, .null),
  (122, .iload 6, 6, 0, .null),
  (124, .iadd, 0, 0, .null),
  (125, .laload, 0, 0, .null),
  (126, .lor, 0, 0, .null),
  (127, .lastore, 0, 0, .null),
  (128, .iinc 6 1, 6, 0, .int 1),
  (131, .goto (-33), 98, 0, .null),
  (134, .iinc 4 1, 4, 0, .int 1),
  (137, .goto (-128), 9, 0, .null),
  (140, .iload_n 3, 3, 0, .null),
  (141, .ireturn, 0, 0, .null),
  (142, .nop, 0, 0, .null)]
theorem o_Mo_follows : xOK y_Mo_follows xk_Mo r_Mo_follows := ⟨xk_Mo_ok, by decide +kernel⟩
def y_Mo_keeps : xMD := (⟨"DataShrinkerModel", "keeps", "()V"⟩, prog_10_method_35_code, 4, none, { frames := 1, cells := 0, slots := 0, locals := 23 })
def r_Mo_keeps : List xRw := [(0, .iconst 0, 0, 0, .int 0),
  (1, .istore_n 1, 1, 0, .null),
  (2, .iload_n 1, 1, 0, .null),
  (3, .bipush 24, 0, 0, .int 24),
  (5, .if_icmp .ge 58, 63, 0, .null),
  (8, .aload_n 0, 0, 0, .null),
  (9, .getfield 106, 40, 7, .null),
  (12, .iload_n 1, 1, 0, .null),
  (13, .aload_n 0, 0, 0, .null),
  (14, .getfield 9, 1, 7, .null),
  (17, .iload_n 1, 1, 0, .null),
  (18, .iaload, 0, 0, .null),
  (19, .ifCond .le 24, 43, 0, .null),
  (22, .aload_n 0, 0, 0, .null),
  (23, .getfield 25, 6, 7, .null),
  (26, .iload_n 1, 1, 0, .null),
  (27, .baload, 0, 0, .null),
  (28, .ifCond .ne 11, 39, 0, .null),
  (31, .aload_n 0, 0, 0, .null),
  (32, .iload_n 1, 1, 0, .null),
  (33, .invokevirtual 251, 0, 0, .null),
  (36, .ifCond .eq 7, 43, 0, .null),
  (39, .iconst 1, 0, 0, .int 1),
  (40, .goto 4, 44, 0, .null),
  (43, .iconst 0, 0, 0, .int 0),
  (44, .bastore, 0, 0, .null),
  (45, .aload_n 0, 0, 0, .null),
  (46, .getfield 115, 43, 7, .null),
  (49, .iload_n 1, 1, 0, .null),
  (50, .aload_n 0, 0, 0, .null),
  (51, .getfield 9, 1, 7, .null),
  (54, .iload_n 1, 1, 0, .null),
  (55, .iaload, 0, 0, .null),
  (56, .iastore, 0, 0, .null),
  (57, .iinc 1 1, 1, 0, .int 1),
  (60, .goto (-58), 2, 0, .null),
  (63, .iconst 1, 0, 0, .int 1),
  (64, .istore_n 1, 1, 0, .null),
  (65, .iload_n 1, 1, 0, .null),
  (66, .iconst 4, 0, 0, .int 4),
  (67, .if_icmp .ge 111, 178, 0, .null),
  (70, .iconst 0, 0, 0, .int 0),
  (71, .istore_n 2, 2, 0, .null),
  (72, .iconst 0, 0, 0, .int 0),
  (73, .istore_n 3, 3, 0, .null),
  (74, .iload_n 3, 3, 0, .null),
  (75, .bipush 24, 0, 0, .int 24),
  (77, .if_icmp .ge 38, 115, 0, .null),
  (80, .iload_n 2, 2, 0, .null),
  (81, .ifCond .ne 22, 103, 0, .null),
  (84, .aload_n 0, 0, 0, .null),
  (85, .getfield 106, 40, 7, .null),
  (88, .iload_n 3, 3, 0, .null),
  (89, .baload, 0, 0, .null),
  (90, .ifCond .eq 17, 107, 0, .null),
  (93, .aload_n 0, 0, 0, .null),
  (94, .getfield 16, 3, 7, .null),
  (97, .iload_n 3, 3, 0, .null),
  (98, .iaload, 0, 0, .null),
  (99, .iload_n 1, 1, 0, .null),
  (100, .if_icmp .ne 7, 107, 0, .null),
  (103, .iconst 1, 0, 0, .int 1),
  (104, .goto 4, 108, 0, .null),
  (107, .iconst 0, 0, 0, .int 0),
  (108, .istore_n 2, 2, 0, .null),
  (109, .iinc 3 1, 3, 0, .int 1),
  (112, .goto (-38), 74, 0, .null),
  (115, .iconst 0, 0, 0, .int 0),
  (116, .istore_n 3, 3, 0, .null),
  (117, .iload_n 3, 3, 0, .null),
  (118, .bipush 24, 0, 0, .int 24),
  (120, .if_icmp .ge 52, 172, 0, .null),
  (123, .aload_n 0, 0, 0, .null),
  (124, .getfield 106, 40, 7, .null),
  (127, .iload_n 3, 3, 0, .null),
  (128, .aload_n 0, 0, 0, .null),
  (129, .getfield 106, 40, 7, .null),
  (132, .iload_n 3, 3, 0, .null),
  (133, .baload, 0, 0, .null),
  (134, .ifCond .ne 26, 160, 0, .null),
  (137, .iload_n 2, 2, 0, .null),
  (138, .ifCond .eq 26, 164, 0, .null),
  (141, .aload_n 0, 0, 0, .null),
  (142, .getfield 16, 3, 7, .null),
  (145, .iload_n 3, 3, 0, .null),
  (146, .iaload, 0, 0, .null),
  (147, .iload_n 1, 1, 0, .null),
  (148, .if_icmp .ne 16, 164, 0, .null),
  (151, .aload_n 0, 0, 0, .null),
  (152, .getfield 9, 1, 7, .null),
  (155, .iload_n 3, 3, 0, .null),
  (156, .iaload, 0, 0, .null),
  (157, .ifCond .le 7, 164, 0, .null),
  (160, .iconst 1, 0, 0, .int 1),
  (161, .goto 4, 165, 0, .null),
  (164, .iconst 0, 0, 0, .int 0),
  (165, .bastore, 0, 0, .null),
  (166, .iinc 3 1, 3, 0, .int 1),
  (169, .goto (-52), 117, 0, .null),
  (172, .iinc 1 1, 1, 0, .int 1),
  (175, .goto (-110), 65, 0, .null),
  (178, .iconst 0, 0, 0, .int 0),
  (179, .istore_n 1, 1, 0, .null),
  (180, .iload_n 1, 1, 0, .null),
  (181, .bipush 12, 0, 0, .int 12),
  (183, .if_icmp .ge 36, 219, 0, .null),
  (186, .aload_n 0, 0, 0, .null),
  (187, .getfield 109, 41, 7, .null),
  (190, .iload_n 1, 1, 0, .null),
  (191, .aload_n 0, 0, 0, .null),
  (192, .getfield 82, 31, 7, .null),
  (195, .bipush 41, 0, 0, .int 41),
  (197, .iload_n 1, 1, 0, .null),
  (198, .imul, 0, 0, .null),
  (199, .baload, 0, 0, .null),
  (200, .bastore, 0, 0, .null),
  (201, .aload_n 0, 0, 0, .null),
  (202, .getfield 118, 44, 7, .null),
  (205, .iload_n 1, 1, 0, .null),
  (206, .aload_n 0, 0, 0, .null),
  (207, .getfield 29, 7, 7, .null),
  (210, .iload_n 1, 1, 0, .null),
  (211, .iaload, 0, 0, .null),
  (212, .iastore, 0, 0, .null),
  (213, .iinc 1 1, 1, 0, .int 1),
  (216, .goto (-36), 180, 0, .null),
  (219, .return_, 0, 0, .null),
  (220, .nop, 0, 0, .null)]
theorem o_Mo_keeps : xOK y_Mo_keeps xk_Mo r_Mo_keeps := ⟨xk_Mo_ok, by decide +kernel⟩
def y_Mo_reads : xMD := (⟨"DataShrinkerModel", "reads", "(I)Z"⟩, prog_10_method_34_code, 4, (some .boolean), { frames := 0, cells := 0, slots := 0, locals := 0 })
def r_Mo_reads : List xRw := [(0, .iconst 0, 0, 0, .int 0),
  (1, .istore_n 2, 2, 0, .null),
  (2, .iconst 0, 0, 0, .int 0),
  (3, .istore_n 3, 3, 0, .null),
  (4, .iload_n 3, 3, 0, .null),
  (5, .aload_n 0, 0, 0, .null),
  (6, .getfield 9, 1, 7, .null),
  (9, .iload_n 1, 1, 0, .null),
  (10, .iaload, 0, 0, .null),
  (11, .if_icmp .ge 33, 44, 0, .null),
  (14, .iload_n 2, 2, 0, .null),
  (15, .ifCond .ne 17, 32, 0, .null),
  (18, .aload_n 0, 0, 0, .null),
  (19, .getfield 88, 33, 7, .null),
  (22, .bipush 64, 0, 0, .int 64),
  (24, .iload_n 1, 1, 0, .null),
  (25, .imul, 0, 0, .null),
  (26, .iload_n 3, 3, 0, .null),
  (27, .iadd, 0, 0, .null),
  (28, .baload, 0, 0, .null),
  (29, .ifCond .eq 7, 36, 0, .null),
  (32, .iconst 1, 0, 0, .int 1),
  (33, .goto 4, 37, 0, .null),
  (36, .iconst 0, 0, 0, .int 0),
  (37, .istore_n 2, 2, 0, .null),
  (38, .iinc 3 1, 3, 0, .int 1),
  (41, .goto (-37), 4, 0, .null),
  (44, .iload_n 2, 2, 0, .null),
  (45, .ireturn, 0, 0, .null),
  (46, .nop, 0, 0, .null)]
theorem o_Mo_reads : xOK y_Mo_reads xk_Mo r_Mo_reads := ⟨xk_Mo_ok, by decide +kernel⟩
def y_Mo_chains : xMD := (⟨"DataShrinkerModel", "chains", "()V"⟩, prog_10_method_38_code, 4, none, { frames := 2, cells := 0, slots := 0, locals := 47 })
def r_Mo_chains : List xRw := [(0, .iconst 0, 0, 0, .int 0),
  (1, .istore_n 1, 1, 0, .null),
  (2, .iload_n 1, 1, 0, .null),
  (3, .bipush 36, 0, 0, .int 36),
  (5, .if_icmp .ge 35, 40, 0, .null),
  (8, .aload_n 0, 0, 0, .null),
  (9, .getfield 112, 42, 7, .null),
  (12, .iload_n 1, 1, 0, .null),
  (13, .iload_n 1, 1, 0, .null),
  (14, .bipush 12, 0, 0, .int 12),
  (16, .if_icmp .ge 16, 32, 0, .null),
  (19, .aload_n 0, 0, 0, .null),
  (20, .getfield 44, 12, 7, .null),
  (23, .iload_n 1, 1, 0, .null),
  (24, .baload, 0, 0, .null),
  (25, .ifCond .eq 7, 32, 0, .null),
  (28, .iconst 1, 0, 0, .int 1),
  (29, .goto 4, 33, 0, .null),
  (32, .iconst (-1), 0, 0, .int (-1)),
  (33, .iastore, 0, 0, .null),
  (34, .iinc 1 1, 1, 0, .int 1),
  (37, .goto (-35), 2, 0, .null),
  (40, .aload_n 0, 0, 0, .null),
  (41, .iconst 1, 0, 0, .int 1),
  (42, .putfield 208, 39, 7, .long 0),
  (45, .aload_n 0, 0, 0, .null),
  (46, .getfield 208, 39, 7, .null),
  (49, .ifCond .eq 189, 238, 0, .null),
  (52, .aload_n 0, 0, 0, .null),
  (53, .iconst 0, 0, 0, .int 0),
  (54, .putfield 208, 39, 7, .long 0),
  (57, .iconst 0, 0, 0, .int 0),
  (58, .istore_n 1, 1, 0, .null),
  (59, .iload_n 1, 1, 0, .null),
  (60, .bipush 12, 0, 0, .int 12),
  (62, .if_icmp .ge 129, 191, 0, .null),
  (65, .iconst 0, 0, 0, .int 0),
  (66, .istore_n 2, 2, 0, .null),
  (67, .iload_n 2, 2, 0, .null),
  (68, .aload_n 0, 0, 0, .null),
  (69, .getfield 29, 7, 7, .null),
  (72, .iload_n 1, 1, 0, .null),
  (73, .iaload, 0, 0, .null),
  (74, .if_icmp .ge 111, 185, 0, .null),
  (77, .bipush 41, 0, 0, .int 41),
  (79, .iload_n 1, 1, 0, .null),
  (80, .imul, 0, 0, .null),
  (81, .iload_n 2, 2, 0, .null),
  (82, .iadd, 0, 0, .null),
  (83, .istore_n 3, 3, 0, .null),
  (84, .aload_n 0, 0, 0, .null),
  (85, .getfield 82, 31, 7, .null),
  (88, .iload_n 3, 3, 0, .null),
  (89, .baload, 0, 0, .null),
  (90, .ifCond .ne 6, 96, 0, .null),
  (93, .goto 86, 179, 0, .null),
  (96, .aload_n 0, 0, 0, .null),
  (97, .getfield 32, 8, 7, .null),
  (100, .iload_n 3, 3, 0, .null),
  (101, .iaload, 0, 0, .null),
  (102, .iconst 5, 0, 0, .int 5),
  (103, .if_icmp .ne 17, 120, 0, .null),
  (106, .aload_n 0, 0, 0, .null),
  (107, .iload_n 1, 1, 0, .null),
  (108, .aload_n 0, 0, 0, .null),
  (109, .getfield 35, 9, 7, .null),
  (112, .iload_n 3, 3, 0, .null),
  (113, .iaload, 0, 0, .null),
  (114, .invokevirtual 254, 0, 0, .null),
  (117, .goto 62, 179, 0, .null),
  (120, .aload_n 0, 0, 0, .null),
  (121, .getfield 32, 8, 7, .null),
  (124, .iload_n 3, 3, 0, .null),
  (125, .iaload, 0, 0, .null),
  (126, .iconst 3, 0, 0, .int 3),
  (127, .if_icmp .eq 14, 141, 0, .null),
  (130, .aload_n 0, 0, 0, .null),
  (131, .getfield 32, 8, 7, .null),
  (134, .iload_n 3, 3, 0, .null),
  (135, .iaload, 0, 0, .null),
  (136, .bipush 11, 0, 0, .int 11),
  (138, .if_icmp .ne 41, 179, 0, .null),
  (141, .aload_n 0, 0, 0, .null),
  (142, .iload_n 3, 3, 0, .null),
  (143, .aload_n 0, 0, 0, .null),
  (144, .getfield 32, 8, 7, .null),
  (147, .iload_n 3, 3, 0, .null),
  (148, .iaload, 0, 0, .null),
  (149, .bipush 11, 0, 0, .int 11),
  (151, .if_icmp .ne 7, 158, 0, .null),
  (154, .iconst 1, 0, 0, .int 1),
  (155, .goto 4, 159, 0, .null),
  (158, .iconst 0, 0, 0, .int 0),
  (159, .invokevirtual 257, 0, 0, .null),
  (162, .ifCond .eq 17, 179, 0, .null),
  (165, .aload_n 0, 0, 0, .null),
  (166, .iload_n 1, 1, 0, .null),
  (167, .bipush 12, 0, 0, .int 12),
  (169, .aload_n 0, 0, 0, .null),
  (170, .getfield 38, 10, 7, .null),
  (173, .iload_n 3, 3, 0, .null),
  (174, .iaload, 0, 0, .null),
  (175, .iadd, 0, 0, .null),
  (176, .invokevirtual 254, 0, 0, .null),
  (179, .iinc 2 1, 2, 0, .int 1),
  (182, .goto (-115), 67, 0, .null),
  (185, .iinc 1 1, 1, 0, .int 1),
  (188, .goto (-129), 59, 0, .null),
  (191, .iconst 0, 0, 0, .int 0),
  (192, .istore_n 1, 1, 0, .null),
  (193, .iload_n 1, 1, 0, .null),
  (194, .sipush 1536, 0, 0, .int 1536),
  (197, .if_icmp .ge 38, 235, 0, .null),
  (200, .aload_n 0, 0, 0, .null),
  (201, .getfield 91, 34, 7, .null),
  (204, .iload_n 1, 1, 0, .null),
  (205, .baload, 0, 0, .null),
  (206, .ifCond .eq 23, 229, 0, .null),
  (209, .aload_n 0, 0, 0, .null),
  (210, .bipush 12, 0, 0, .int 12),
  (212, .iload_n 1, 1, 0, .null),
  (213, .bipush 64, 0, 0, .int 64),
  (215, .idiv, 0, 0, .null),
  (216, .iadd, 0, 0, .null),
  (217, .bipush 12, 0, 0, .int 12),
  (219, .aload_n 0, 0, 0, .null),
  (220, .getfield 22, 5, 7, .null),
  (223, .iload_n 1, 1, 0, .null),
  (224, .iaload, 0, 0, .null),
  (225, .iadd, 0, 0, .null),
  (226, .invokevirtual 254, 0, 0, .null),
  (229, .iinc 1 1, 1, 0, .int 1),
  (232, .goto (-39), 193, 0, .null),
  (235, .goto (-190), 45, 0, .null),
  (238, .return_, 0, 0, .null),
  (239, .nop, 0, 0, .null)]
theorem o_Mo_chains : xOK y_Mo_chains xk_Mo r_Mo_chains := ⟨xk_Mo_ok, by decide +kernel⟩
def y_Mo_leads : xMD := (⟨"DataShrinkerModel", "leads", "(II)V"⟩, prog_10_method_36_code, 3, none, { frames := 0, cells := 0, slots := 0, locals := 0 })
def r_Mo_leads : List xRw := [(0, .aload_n 0, 0, 0, .null),
  (1, .getfield 112, 42, 7, .null),
  (4, .iload_n 1, 1, 0, .null),
  (5, .iaload, 0, 0, .null),
  (6, .iconst (-1), 0, 0, .int (-1)),
  (7, .if_icmp .eq 49, 56, 0, .null),
  (10, .aload_n 0, 0, 0, .null),
  (11, .getfield 112, 42, 7, .null),
  (14, .iload_n 2, 2, 0, .null),
  (15, .iaload, 0, 0, .null),
  (16, .iconst (-1), 0, 0, .int (-1)),
  (17, .if_icmp .eq 20, 37, 0, .null),
  (20, .aload_n 0, 0, 0, .null),
  (21, .getfield 112, 42, 7, .null),
  (24, .iload_n 2, 2, 0, .null),
  (25, .iaload, 0, 0, .null),
  (26, .aload_n 0, 0, 0, .null),
  (27, .getfield 112, 42, 7, .null),
  (30, .iload_n 1, 1, 0, .null),
  (31, .iaload, 0, 0, .null),
  (32, .iconst 1, 0, 0, .int 1),
  (33, .iadd, 0, 0, .null),
  (34, .if_icmp .le 22, 56, 0, .null),
  (37, .aload_n 0, 0, 0, .null),
  (38, .getfield 112, 42, 7, .null),
  (41, .iload_n 2, 2, 0, .null),
  (42, .aload_n 0, 0, 0, .null),
  (43, .getfield 112, 42, 7, .null),
  (46, .iload_n 1, 1, 0, .null),
  (47, .iaload, 0, 0, .null),
  (48, .iconst 1, 0, 0, .int 1),
  (49, .iadd, 0, 0, .null),
  (50, .iastore, 0, 0, .null),
  (51, .aload_n 0, 0, 0, .null),
  (52, .iconst 1, 0, 0, .int 1),
  (53, .putfield 208, 39, 7, .long 0),
  (56, .return_, 0, 0, .null),
  (57, .nop, 0, 0, .null)]
theorem o_Mo_leads : xOK y_Mo_leads xk_Mo r_Mo_leads := ⟨xk_Mo_ok, by decide +kernel⟩
def y_Mo_readsBy : xMD := (⟨"DataShrinkerModel", "readsBy", "(IZ)Z"⟩, prog_10_method_37_code, 5, (some .boolean), { frames := 1, cells := 0, slots := 0, locals := 23 })
def r_Mo_readsBy : List xRw := [(0, .iconst 0, 0, 0, .int 0),
  (1, .istore_n 3, 3, 0, .null),
  (2, .iconst 0, 0, 0, .int 0),
  (3, .istore 4, 4, 0, .null),
  (5, .iload 4, 4, 0, .null),
  (7, .aload_n 0, 0, 0, .null),
  (8, .getfield 9, 1, 7, .null),
  (11, .aload_n 0, 0, 0, .null),
  (12, .getfield 38, 10, 7, .null),
  (15, .iload_n 1, 1, 0, .null),
  (16, .iaload, 0, 0, .null),
  (17, .iaload, 0, 0, .null),
  (18, .if_icmp .ge 70, 88, 0, .null),
  (21, .iload_n 3, 3, 0, .null),
  (22, .ifCond .ne 54, 76, 0, .null),
  (25, .aload_n 0, 0, 0, .null),
  (26, .aload_n 0, 0, 0, .null),
  (27, .getfield 72, 28, 7, .null),
  (30, .bipush 16, 0, 0, .int 16),
  (32, .iload_n 1, 1, 0, .null),
  (33, .imul, 0, 0, .null),
  (34, .iconst 4, 0, 0, .int 4),
  (35, .aload_n 0, 0, 0, .null),
  (36, .getfield 41, 11, 7, .null),
  (39, .iload_n 1, 1, 0, .null),
  (40, .iaload, 0, 0, .null),
  (41, .imul, 0, 0, .null),
  (42, .iadd, 0, 0, .null),
  (43, .iload 4, 4, 0, .null),
  (45, .invokevirtual 214, 0, 0, .null),
  (48, .ifCond .eq 32, 80, 0, .null),
  (51, .iload_n 2, 2, 0, .null),
  (52, .ifCond .eq 24, 76, 0, .null),
  (55, .aload_n 0, 0, 0, .null),
  (56, .getfield 22, 5, 7, .null),
  (59, .bipush 64, 0, 0, .int 64),
  (61, .aload_n 0, 0, 0, .null),
  (62, .getfield 38, 10, 7, .null),
  (65, .iload_n 1, 1, 0, .null),
  (66, .iaload, 0, 0, .null),
  (67, .imul, 0, 0, .null),
  (68, .iload 4, 4, 0, .null),
  (70, .iadd, 0, 0, .null),
  (71, .iaload, 0, 0, .null),
  (72, .iconst (-1), 0, 0, .int (-1)),
  (73, .if_icmp .eq 7, 80, 0, .null),
  (76, .iconst 1, 0, 0, .int 1),
  (77, .goto 4, 81, 0, .null),
  (80, .iconst 0, 0, 0, .int 0),
  (81, .istore_n 3, 3, 0, .null),
  (82, .iinc 4 1, 4, 0, .int 1),
  (85, .goto (-80), 5, 0, .null),
  (88, .iload_n 3, 3, 0, .null),
  (89, .ireturn, 0, 0, .null),
  (90, .nop, 0, 0, .null)]
theorem o_Mo_readsBy : xOK y_Mo_readsBy xk_Mo r_Mo_readsBy := ⟨xk_Mo_ok, by decide +kernel⟩
def y_Mo_lays : xMD := (⟨"DataShrinkerModel", "lays", "()V"⟩, prog_10_method_45_code, 5, none, { frames := 3, cells := 0, slots := 0, locals := 69 })
def r_Mo_lays : List xRw := [(0, .aload_n 0, 0, 0, .null),
  (1, .invokevirtual 280, 0, 0, .null),
  (4, .aload_n 0, 0, 0, .null),
  (5, .getfield 267, 56, 7, .null),
  (8, .bipush 7, 0, 0, .int 7),
  (10, .if_icmp .gt 10, 20, 0, .null),
  (13, .aload_n 0, 0, 0, .null),
  (14, .invokevirtual 283, 0, 0, .null),
  (17, .goto 31, 48, 0, .null),
  (20, .iconst 0, 0, 0, .int 0),
  (21, .istore_n 1, 1, 0, .null),
  (22, .iload_n 1, 1, 0, .null),
  (23, .aload_n 0, 0, 0, .null),
  (24, .getfield 267, 56, 7, .null),
  (27, .if_icmp .ge 21, 48, 0, .null),
  (30, .aload_n 0, 0, 0, .null),
  (31, .getfield 148, 54, 7, .null),
  (34, .iload_n 1, 1, 0, .null),
  (35, .aload_n 0, 0, 0, .null),
  (36, .getfield 142, 52, 7, .null),
  (39, .iload_n 1, 1, 0, .null),
  (40, .iaload, 0, 0, .null),
  (41, .iastore, 0, 0, .null),
  (42, .iinc 1 1, 1, 0, .int 1),
  (45, .goto (-23), 22, 0, .null),
  (48, .iconst 0, 0, 0, .int 0),
  (49, .istore_n 1, 1, 0, .null),
  (50, .iload_n 1, 1, 0, .null),
  (51, .aload_n 0, 0, 0, .null),
  (52, .getfield 133, 49, 7, .null),
  (55, .arraylength, 0, 0, .null),
  (56, .if_icmp .ge 16, 72, 0, .null),
  (59, .aload_n 0, 0, 0, .null),
  (60, .getfield 133, 49, 7, .null),
  (63, .iload_n 1, 1, 0, .null),
  (64, .iconst 0, 0, 0, .int 0),
  (65, .iastore, 0, 0, .null),
  (66, .iinc 1 1, 1, 0, .int 1),
  (69, .goto (-19), 50, 0, .null),
  (72, .iconst 0, 0, 0, .int 0),
  (73, .istore_n 1, 1, 0, .null),
  (74, .iconst 0, 0, 0, .int 0),
  (75, .istore_n 2, 2, 0, .null),
  (76, .iload_n 2, 2, 0, .null),
  (77, .aload_n 0, 0, 0, .null),
  (78, .getfield 267, 56, 7, .null),
  (81, .if_icmp .ge 84, 165, 0, .null),
  (84, .aload_n 0, 0, 0, .null),
  (85, .getfield 148, 54, 7, .null),
  (88, .iload_n 2, 2, 0, .null),
  (89, .iaload, 0, 0, .null),
  (90, .istore_n 3, 3, 0, .null),
  (91, .iload_n 1, 1, 0, .null),
  (92, .aload_n 0, 0, 0, .null),
  (93, .getfield 130, 48, 7, .null),
  (96, .iload_n 3, 3, 0, .null),
  (97, .iaload, 0, 0, .null),
  (98, .invokestatic 270, 0, 0, .null),
  (101, .istore_n 1, 1, 0, .null),
  (102, .aload_n 0, 0, 0, .null),
  (103, .getfield 121, 45, 7, .null),
  (106, .iload_n 3, 3, 0, .null),
  (107, .iload_n 1, 1, 0, .null),
  (108, .iastore, 0, 0, .null),
  (109, .iconst 0, 0, 0, .int 0),
  (110, .istore 4, 4, 0, .null),
  (112, .iload 4, 4, 0, .null),
  (114, .aload_n 0, 0, 0, .null),
  (115, .getfield 9, 1, 7, .null),
  (118, .iload_n 3, 3, 0, .null),
  (119, .iaload, 0, 0, .null),
  (120, .if_icmp .ge 30, 150, 0, .null),
  (123, .aload_n 0, 0, 0, .null),
  (124, .getfield 133, 49, 7, .null),
  (127, .iload_n 1, 1, 0, .null),
  (128, .iload 4, 4, 0, .null),
  (130, .iadd, 0, 0, .null),
  (131, .aload_n 0, 0, 0, .null),
  (132, .getfield 19, 4, 7, .null),
  (135, .bipush 64, 0, 0, .int 64),
  (137, .iload_n 3, 3, 0, .null),
  (138, .imul, 0, 0, .null),
  (139, .iload 4, 4, 0, .null),
  (141, .iadd, 0, 0, .null),
  (142, .iaload, 0, 0, .null),
  (143, .iastore, 0, 0, .null),
  (144, .iinc 4 1, 4, 0, .int 1),
  (147, .goto (-35), 112, 0, .null),
  (150, .iload_n 1, 1, 0, .null),
  (151, .aload_n 0, 0, 0, .null),
  (152, .getfield 9, 1, 7, .null),
  (155, .iload_n 3, 3, 0, .null),
  (156, .iaload, 0, 0, .null),
  (157, .iadd, 0, 0, .null),
  (158, .istore_n 1, 1, 0, .null),
  (159, .iinc 2 1, 2, 0, .int 1),
  (162, .goto (-86), 76, 0, .null),
  (165, .aload_n 0, 0, 0, .null),
  (166, .iload_n 1, 1, 0, .null),
  (167, .putfield 286, 57, 7, .int 0),
  (170, .iconst 0, 0, 0, .int 0),
  (171, .istore_n 2, 2, 0, .null),
  (172, .iload_n 2, 2, 0, .null),
  (173, .bipush 24, 0, 0, .int 24),
  (175, .if_icmp .ge 64, 239, 0, .null),
  (178, .aload_n 0, 0, 0, .null),
  (179, .getfield 106, 40, 7, .null),
  (182, .iload_n 2, 2, 0, .null),
  (183, .baload, 0, 0, .null),
  (184, .ifCond .eq 49, 233, 0, .null),
  (187, .aload_n 0, 0, 0, .null),
  (188, .getfield 127, 47, 7, .null),
  (191, .iload_n 2, 2, 0, .null),
  (192, .iaload, 0, 0, .null),
  (193, .iconst (-1), 0, 0, .int (-1)),
  (194, .if_icmp .eq 39, 233, 0, .null),
  (197, .aload_n 0, 0, 0, .null),
  (198, .getfield 121, 45, 7, .null),
  (201, .iload_n 2, 2, 0, .null),
  (202, .aload_n 0, 0, 0, .null),
  (203, .getfield 121, 45, 7, .null),
  (206, .aload_n 0, 0, 0, .null),
  (207, .getfield 127, 47, 7, .null),
  (210, .iload_n 2, 2, 0, .null),
  (211, .iaload, 0, 0, .null),
  (212, .iaload, 0, 0, .null),
  (213, .aload_n 0, 0, 0, .null),
  (214, .getfield 9, 1, 7, .null),
  (217, .aload_n 0, 0, 0, .null),
  (218, .getfield 127, 47, 7, .null),
  (221, .iload_n 2, 2, 0, .null),
  (222, .iaload, 0, 0, .null),
  (223, .iaload, 0, 0, .null),
  (224, .iadd, 0, 0, .null),
  (225, .aload_n 0, 0, 0, .null),
  (226, .getfield 9, 1, 7, .null),
  (229, .iload_n 2, 2, 0, .null),
  (230, .iaload, 0, 0, .null),
  (231, .isub, 0, 0, .null),
  (232, .iastore, 0, 0, .null),
  (233, .iinc 2 1, 2, 0, .int 1),
  (236, .goto (-64), 172, 0, .null),
  (239, .iconst 0, 0, 0, .int 0),
  (240, .istore_n 2, 2, 0, .null),
  (241, .iload_n 2, 2, 0, .null),
  (242, .bipush 24, 0, 0, .int 24),
  (244, .if_icmp .ge 45, 289, 0, .null),
  (247, .aload_n 0, 0, 0, .null),
  (248, .getfield 106, 40, 7, .null),
  (251, .iload_n 2, 2, 0, .null),
  (252, .baload, 0, 0, .null),
  (253, .ifCond .eq 30, 283, 0, .null),
  (256, .aload_n 0, 0, 0, .null),
  (257, .getfield 124, 46, 7, .null),
  (260, .iload_n 2, 2, 0, .null),
  (261, .iaload, 0, 0, .null),
  (262, .iconst (-1), 0, 0, .int (-1)),
  (263, .if_icmp .eq 20, 283, 0, .null),
  (266, .aload_n 0, 0, 0, .null),
  (267, .getfield 121, 45, 7, .null),
  (270, .iload_n 2, 2, 0, .null),
  (271, .aload_n 0, 0, 0, .null),
  (272, .getfield 121, 45, 7, .null),
  (275, .aload_n 0, 0, 0, .null),
  (276, .getfield 124, 46, 7, .null),
  (279, .iload_n 2, 2, 0, .null),
  (280, .iaload, 0, 0, .null),
  (281, .iaload, 0, 0, .null),
  (282, .iastore, 0, 0, .null),
  (283, .iinc 2 1, 2, 0, .int 1),
  (286, .goto (-45), 241, 0, .null),
  (289, .return_, 0, 0, .null),
  (290, .nop, 0, 0, .null)]
theorem o_Mo_lays : xOK y_Mo_lays xk_Mo r_Mo_lays := ⟨xk_Mo_ok, by decide +kernel⟩
def y_Mo_joins : xMD := (⟨"DataShrinkerModel", "joins", "()V"⟩, prog_10_method_41_code, 4, none, { frames := 1, cells := 0, slots := 0, locals := 24 })
def r_Mo_joins : List xRw := [(0, .iconst 0, 0, 0, .int 0),
  (1, .istore_n 1, 1, 0, .null),
  (2, .iload_n 1, 1, 0, .null),
  (3, .bipush 24, 0, 0, .int 24),
  (5, .if_icmp .ge 88, 93, 0, .null),
  (8, .aload_n 0, 0, 0, .null),
  (9, .getfield 136, 50, 7, .null),
  (12, .iload_n 1, 1, 0, .null),
  (13, .aload_n 0, 0, 0, .null),
  (14, .getfield 106, 40, 7, .null),
  (17, .iload_n 1, 1, 0, .null),
  (18, .baload, 0, 0, .null),
  (19, .ifCond .eq 33, 52, 0, .null),
  (22, .aload_n 0, 0, 0, .null),
  (23, .iload_n 1, 1, 0, .null),
  (24, .invokevirtual 261, 0, 0, .null),
  (27, .ifCond .ne 25, 52, 0, .null),
  (30, .aload_n 0, 0, 0, .null),
  (31, .getfield 94, 35, 7, .null),
  (34, .iload_n 1, 1, 0, .null),
  (35, .baload, 0, 0, .null),
  (36, .ifCond .ne 16, 52, 0, .null),
  (39, .aload_n 0, 0, 0, .null),
  (40, .getfield 97, 36, 7, .null),
  (43, .iload_n 1, 1, 0, .null),
  (44, .baload, 0, 0, .null),
  (45, .ifCond .ne 7, 52, 0, .null),
  (48, .iconst 1, 0, 0, .int 1),
  (49, .goto 4, 53, 0, .null),
  (52, .iconst 0, 0, 0, .int 0),
  (53, .bastore, 0, 0, .null),
  (54, .aload_n 0, 0, 0, .null),
  (55, .getfield 124, 46, 7, .null),
  (58, .iload_n 1, 1, 0, .null),
  (59, .iconst (-1), 0, 0, .int (-1)),
  (60, .iastore, 0, 0, .null),
  (61, .aload_n 0, 0, 0, .null),
  (62, .getfield 127, 47, 7, .null),
  (65, .iload_n 1, 1, 0, .null),
  (66, .iconst (-1), 0, 0, .int (-1)),
  (67, .iastore, 0, 0, .null),
  (68, .aload_n 0, 0, 0, .null),
  (69, .getfield 139, 51, 7, .null),
  (72, .iload_n 1, 1, 0, .null),
  (73, .iconst 0, 0, 0, .int 0),
  (74, .bastore, 0, 0, .null),
  (75, .aload_n 0, 0, 0, .null),
  (76, .getfield 130, 48, 7, .null),
  (79, .iload_n 1, 1, 0, .null),
  (80, .aload_n 0, 0, 0, .null),
  (81, .getfield 13, 2, 7, .null),
  (84, .iload_n 1, 1, 0, .null),
  (85, .iaload, 0, 0, .null),
  (86, .iastore, 0, 0, .null),
  (87, .iinc 1 1, 1, 0, .int 1),
  (90, .goto (-88), 2, 0, .null),
  (93, .iconst 0, 0, 0, .int 0),
  (94, .istore_n 1, 1, 0, .null),
  (95, .iload_n 1, 1, 0, .null),
  (96, .bipush 24, 0, 0, .int 24),
  (98, .if_icmp .ge 127, 225, 0, .null),
  (101, .iconst 0, 0, 0, .int 0),
  (102, .istore_n 2, 2, 0, .null),
  (103, .iload_n 2, 2, 0, .null),
  (104, .iload_n 1, 1, 0, .null),
  (105, .if_icmp .ge 114, 219, 0, .null),
  (108, .aload_n 0, 0, 0, .null),
  (109, .getfield 136, 50, 7, .null),
  (112, .iload_n 1, 1, 0, .null),
  (113, .baload, 0, 0, .null),
  (114, .ifCond .eq 105, 219, 0, .null),
  (117, .aload_n 0, 0, 0, .null),
  (118, .getfield 124, 46, 7, .null),
  (121, .iload_n 1, 1, 0, .null),
  (122, .iaload, 0, 0, .null),
  (123, .iconst (-1), 0, 0, .int (-1)),
  (124, .if_icmp .ne 95, 219, 0, .null),
  (127, .aload_n 0, 0, 0, .null),
  (128, .getfield 136, 50, 7, .null),
  (131, .iload_n 2, 2, 0, .null),
  (132, .baload, 0, 0, .null),
  (133, .ifCond .eq 80, 213, 0, .null),
  (136, .aload_n 0, 0, 0, .null),
  (137, .getfield 124, 46, 7, .null),
  (140, .iload_n 2, 2, 0, .null),
  (141, .iaload, 0, 0, .null),
  (142, .iconst (-1), 0, 0, .int (-1)),
  (143, .if_icmp .ne 70, 213, 0, .null),
  (146, .aload_n 0, 0, 0, .null),
  (147, .getfield 9, 1, 7, .null),
  (150, .iload_n 2, 2, 0, .null),
  (151, .iaload, 0, 0, .null),
  (152, .aload_n 0, 0, 0, .null),
  (153, .getfield 9, 1, 7, .null),
  (156, .iload_n 1, 1, 0, .null),
  (157, .iaload, 0, 0, .null),
  (158, .if_icmp .ne 55, 213, 0, .null),
  (161, .aload_n 0, 0, 0, .null),
  (162, .iload_n 2, 2, 0, .null),
  (163, .iload_n 1, 1, 0, .null),
  (164, .invokevirtual 264, 0, 0, .null),
  (167, .ifCond .eq 46, 213, 0, .null),
  (170, .aload_n 0, 0, 0, .null),
  (171, .getfield 124, 46, 7, .null),
  (174, .iload_n 1, 1, 0, .null),
  (175, .iload_n 2, 2, 0, .null),
  (176, .iastore, 0, 0, .null),
  (177, .aload_n 0, 0, 0, .null),
  (178, .getfield 130, 48, 7, .null),
  (181, .iload_n 2, 2, 0, .null),
  (182, .aload_n 0, 0, 0, .null),
  (183, .getfield 130, 48, 7, .null),
  (186, .iload_n 2, 2, 0, .null),
  (187, .iaload, 0, 0, .null),
  (188, .aload_n 0, 0, 0, .null),
  (189, .getfield 13, 2, 7, .null),
  (192, .iload_n 1, 1, 0, .null),
  (193, .iaload, 0, 0, .null),
  (194, .if_icmp .ge 12, 206, 0, .null),
  (197, .aload_n 0, 0, 0, .null),
  (198, .getfield 13, 2, 7, .null),
  (201, .iload_n 1, 1, 0, .null),
  (202, .iaload, 0, 0, .null),
  (203, .goto 9, 212, 0, .null),
  (206, .aload_n 0, 0, 0, .null),
  (207, .getfield 130, 48, 7, .null),
  (210, .iload_n 2, 2, 0, .null),
  (211, .iaload, 0, 0, .null),
  (212, .iastore, 0, 0, .null),
  (213, .iinc 2 1, 2, 0, .int 1),
  (216, .goto (-113), 103, 0, .null),
  (219, .iinc 1 1, 1, 0, .int 1),
  (222, .goto (-127), 95, 0, .null),
  (225, .iconst 0, 0, 0, .int 0),
  (226, .istore_n 1, 1, 0, .null),
  (227, .iload_n 1, 1, 0, .null),
  (228, .bipush 24, 0, 0, .int 24),
  (230, .if_icmp .ge 180, 410, 0, .null),
  (233, .aload_n 0, 0, 0, .null),
  (234, .getfield 136, 50, 7, .null),
  (237, .iload_n 1, 1, 0, .null),
  (238, .baload, 0, 0, .null),
  (239, .ifCond .eq 165, 404, 0, .null),
  (242, .aload_n 0, 0, 0, .null),
  (243, .getfield 124, 46, 7, .null),
  (246, .iload_n 1, 1, 0, .null),
  (247, .iaload, 0, 0, .null),
  (248, .iconst (-1), 0, 0, .int (-1)),
  (249, .if_icmp .ne 155, 404, 0, .null),
  (252, .aload_n 0, 0, 0, .null),
  (253, .getfield 139, 51, 7, .null),
  (256, .iload_n 1, 1, 0, .null),
  (257, .baload, 0, 0, .null),
  (258, .ifCond .eq 6, 264, 0, .null),
  (261, .goto 143, 404, 0, .null),
  (264, .iconst 0, 0, 0, .int 0),
  (265, .istore_n 2, 2, 0, .null),
  (266, .iload_n 2, 2, 0, .null),
  (267, .bipush 24, 0, 0, .int 24),
  (269, .if_icmp .ge 135, 404, 0, .null),
  (272, .aload_n 0, 0, 0, .null),
  (273, .getfield 127, 47, 7, .null),
  (276, .iload_n 1, 1, 0, .null),
  (277, .iaload, 0, 0, .null),
  (278, .iconst (-1), 0, 0, .int (-1)),
  (279, .if_icmp .ne 125, 404, 0, .null),
  (282, .aload_n 0, 0, 0, .null),
  (283, .getfield 136, 50, 7, .null),
  (286, .iload_n 2, 2, 0, .null),
  (287, .baload, 0, 0, .null),
  (288, .ifCond .eq 51, 339, 0, .null),
  (291, .aload_n 0, 0, 0, .null),
  (292, .getfield 124, 46, 7, .null),
  (295, .iload_n 2, 2, 0, .null),
  (296, .iaload, 0, 0, .null),
  (297, .iconst (-1), 0, 0, .int (-1)),
  (298, .if_icmp .ne 41, 339, 0, .null),
  (301, .aload_n 0, 0, 0, .null),
  (302, .getfield 9, 1, 7, .null),
  (305, .iload_n 2, 2, 0, .null),
  (306, .iaload, 0, 0, .null),
  (307, .aload_n 0, 0, 0, .null),
  (308, .getfield 9, 1, 7, .null),
  (311, .iload_n 1, 1, 0, .null),
  (312, .iaload, 0, 0, .null),
  (313, .if_icmp .le 26, 339, 0, .null),
  (316, .aload_n 0, 0, 0, .null),
  (317, .getfield 127, 47, 7, .null),
  (320, .iload_n 2, 2, 0, .null),
  (321, .iaload, 0, 0, .null),
  (322, .iconst (-1), 0, 0, .int (-1)),
  (323, .if_icmp .ne 16, 339, 0, .null),
  (326, .aload_n 0, 0, 0, .null),
  (327, .iload_n 2, 2, 0, .null),
  (328, .iload_n 1, 1, 0, .null),
  (329, .invokevirtual 264, 0, 0, .null),
  (332, .ifCond .eq 7, 339, 0, .null),
  (335, .iconst 1, 0, 0, .int 1),
  (336, .goto 4, 340, 0, .null),
  (339, .iconst 0, 0, 0, .int 0),
  (340, .istore_n 3, 3, 0, .null),
  (341, .iload_n 3, 3, 0, .null),
  (342, .ifCond .eq 56, 398, 0, .null),
  (345, .aload_n 0, 0, 0, .null),
  (346, .getfield 130, 48, 7, .null),
  (349, .iload_n 2, 2, 0, .null),
  (350, .iaload, 0, 0, .null),
  (351, .aload_n 0, 0, 0, .null),
  (352, .getfield 130, 48, 7, .null),
  (355, .iload_n 1, 1, 0, .null),
  (356, .iaload, 0, 0, .null),
  (357, .irem, 0, 0, .null),
  (358, .ifCond .ne 40, 398, 0, .null),
  (361, .aload_n 0, 0, 0, .null),
  (362, .getfield 9, 1, 7, .null),
  (365, .iload_n 2, 2, 0, .null),
  (366, .iaload, 0, 0, .null),
  (367, .aload_n 0, 0, 0, .null),
  (368, .getfield 9, 1, 7, .null),
  (371, .iload_n 1, 1, 0, .null),
  (372, .iaload, 0, 0, .null),
  (373, .isub, 0, 0, .null),
  (374, .aload_n 0, 0, 0, .null),
  (375, .getfield 130, 48, 7, .null),
  (378, .iload_n 1, 1, 0, .null),
  (379, .iaload, 0, 0, .null),
  (380, .irem, 0, 0, .null),
  (381, .ifCond .ne 17, 398, 0, .null),
  (384, .aload_n 0, 0, 0, .null),
  (385, .getfield 127, 47, 7, .null),
  (388, .iload_n 1, 1, 0, .null),
  (389, .iload_n 2, 2, 0, .null),
  (390, .iastore, 0, 0, .null),
  (391, .aload_n 0, 0, 0, .null),
  (392, .getfield 139, 51, 7, .null),
  (395, .iload_n 2, 2, 0, .null),
  (396, .iconst 1, 0, 0, .int 1),
  (397, .bastore, 0, 0, .null),
  (398, .iinc 2 1, 2, 0, .int 1),
  (401, .goto (-135), 266, 0, .null),
  (404, .iinc 1 1, 1, 0, .int 1),
  (407, .goto (-180), 227, 0, .null),
  (410, .aload_n 0, 0, 0, .null),
  (411, .iconst 0, 0, 0, .int 0),
  (412, .putfield 267, 56, 7, .int 0),
  (415, .iconst 0, 0, 0, .int 0),
  (416, .istore_n 1, 1, 0, .null),
  (417, .iload_n 1, 1, 0, .null),
  (418, .bipush 24, 0, 0, .int 24),
  (420, .if_icmp .ge 58, 478, 0, .null),
  (423, .aload_n 0, 0, 0, .null),
  (424, .getfield 106, 40, 7, .null),
  (427, .iload_n 1, 1, 0, .null),
  (428, .baload, 0, 0, .null),
  (429, .ifCond .eq 43, 472, 0, .null),
  (432, .aload_n 0, 0, 0, .null),
  (433, .getfield 124, 46, 7, .null),
  (436, .iload_n 1, 1, 0, .null),
  (437, .iaload, 0, 0, .null),
  (438, .iconst (-1), 0, 0, .int (-1)),
  (439, .if_icmp .ne 33, 472, 0, .null),
  (442, .aload_n 0, 0, 0, .null),
  (443, .getfield 127, 47, 7, .null),
  (446, .iload_n 1, 1, 0, .null),
  (447, .iaload, 0, 0, .null),
  (448, .iconst (-1), 0, 0, .int (-1)),
  (449, .if_icmp .ne 23, 472, 0, .null),
  (452, .aload_n 0, 0, 0, .null),
  (453, .getfield 142, 52, 7, .null),
  (456, .aload_n 0, 0, 0, .null),
  (457, .getfield 267, 56, 7, .null),
  (460, .iload_n 1, 1, 0, .null),
  (461, .iastore, 0, 0, .null),
  (462, .aload_n 0, 0, 0, .null),
  (463, .dup, 0, 0, .null),
  (464, .getfield 267, 56, 7, .null),
  (467, .iconst 1, 0, 0, .int 1),
  (468, .iadd, 0, 0, .null),
  (469, .putfield 267, 56, 7, .int 0),
  (472, .iinc 1 1, 1, 0, .int 1),
  (475, .goto (-58), 417, 0, .null),
  (478, .return_, 0, 0, .null),
  (479, .nop, 0, 0, .null)]
def r_Mo_joins_0 : List xRw := [(0, .iconst 0, 0, 0, .int 0),
  (1, .istore_n 1, 1, 0, .null),
  (2, .iload_n 1, 1, 0, .null),
  (3, .bipush 24, 0, 0, .int 24),
  (5, .if_icmp .ge 88, 93, 0, .null),
  (8, .aload_n 0, 0, 0, .null),
  (9, .getfield 136, 50, 7, .null),
  (12, .iload_n 1, 1, 0, .null),
  (13, .aload_n 0, 0, 0, .null),
  (14, .getfield 106, 40, 7, .null),
  (17, .iload_n 1, 1, 0, .null),
  (18, .baload, 0, 0, .null),
  (19, .ifCond .eq 33, 52, 0, .null),
  (22, .aload_n 0, 0, 0, .null),
  (23, .iload_n 1, 1, 0, .null),
  (24, .invokevirtual 261, 0, 0, .null),
  (27, .ifCond .ne 25, 52, 0, .null),
  (30, .aload_n 0, 0, 0, .null),
  (31, .getfield 94, 35, 7, .null),
  (34, .iload_n 1, 1, 0, .null),
  (35, .baload, 0, 0, .null),
  (36, .ifCond .ne 16, 52, 0, .null),
  (39, .aload_n 0, 0, 0, .null),
  (40, .getfield 97, 36, 7, .null),
  (43, .iload_n 1, 1, 0, .null),
  (44, .baload, 0, 0, .null),
  (45, .ifCond .ne 7, 52, 0, .null),
  (48, .iconst 1, 0, 0, .int 1),
  (49, .goto 4, 53, 0, .null),
  (52, .iconst 0, 0, 0, .int 0),
  (53, .bastore, 0, 0, .null),
  (54, .aload_n 0, 0, 0, .null),
  (55, .getfield 124, 46, 7, .null),
  (58, .iload_n 1, 1, 0, .null),
  (59, .iconst (-1), 0, 0, .int (-1)),
  (60, .iastore, 0, 0, .null),
  (61, .aload_n 0, 0, 0, .null),
  (62, .getfield 127, 47, 7, .null),
  (65, .iload_n 1, 1, 0, .null),
  (66, .iconst (-1), 0, 0, .int (-1)),
  (67, .iastore, 0, 0, .null),
  (68, .aload_n 0, 0, 0, .null),
  (69, .getfield 139, 51, 7, .null),
  (72, .iload_n 1, 1, 0, .null),
  (73, .iconst 0, 0, 0, .int 0),
  (74, .bastore, 0, 0, .null),
  (75, .aload_n 0, 0, 0, .null),
  (76, .getfield 130, 48, 7, .null),
  (79, .iload_n 1, 1, 0, .null),
  (80, .aload_n 0, 0, 0, .null),
  (81, .getfield 13, 2, 7, .null),
  (84, .iload_n 1, 1, 0, .null),
  (85, .iaload, 0, 0, .null),
  (86, .iastore, 0, 0, .null),
  (87, .iinc 1 1, 1, 0, .int 1),
  (90, .goto (-88), 2, 0, .null),
  (93, .iconst 0, 0, 0, .int 0),
  (94, .istore_n 1, 1, 0, .null),
  (95, .iload_n 1, 1, 0, .null),
  (96, .bipush 24, 0, 0, .int 24)]
theorem o_Mo_joins_0 : xchk (yB y_Mo_joins) xk_Mo (r_Mo_joins_0 ++ [(98, .if_icmp .ge 127, 225, 0, .null)]) = true := by decide +kernel
def r_Mo_joins_1 : List xRw := [(98, .if_icmp .ge 127, 225, 0, .null),
  (101, .iconst 0, 0, 0, .int 0),
  (102, .istore_n 2, 2, 0, .null),
  (103, .iload_n 2, 2, 0, .null),
  (104, .iload_n 1, 1, 0, .null),
  (105, .if_icmp .ge 114, 219, 0, .null),
  (108, .aload_n 0, 0, 0, .null),
  (109, .getfield 136, 50, 7, .null),
  (112, .iload_n 1, 1, 0, .null),
  (113, .baload, 0, 0, .null),
  (114, .ifCond .eq 105, 219, 0, .null),
  (117, .aload_n 0, 0, 0, .null),
  (118, .getfield 124, 46, 7, .null),
  (121, .iload_n 1, 1, 0, .null),
  (122, .iaload, 0, 0, .null),
  (123, .iconst (-1), 0, 0, .int (-1)),
  (124, .if_icmp .ne 95, 219, 0, .null),
  (127, .aload_n 0, 0, 0, .null),
  (128, .getfield 136, 50, 7, .null),
  (131, .iload_n 2, 2, 0, .null),
  (132, .baload, 0, 0, .null),
  (133, .ifCond .eq 80, 213, 0, .null),
  (136, .aload_n 0, 0, 0, .null),
  (137, .getfield 124, 46, 7, .null),
  (140, .iload_n 2, 2, 0, .null),
  (141, .iaload, 0, 0, .null),
  (142, .iconst (-1), 0, 0, .int (-1)),
  (143, .if_icmp .ne 70, 213, 0, .null),
  (146, .aload_n 0, 0, 0, .null),
  (147, .getfield 9, 1, 7, .null),
  (150, .iload_n 2, 2, 0, .null),
  (151, .iaload, 0, 0, .null),
  (152, .aload_n 0, 0, 0, .null),
  (153, .getfield 9, 1, 7, .null),
  (156, .iload_n 1, 1, 0, .null),
  (157, .iaload, 0, 0, .null),
  (158, .if_icmp .ne 55, 213, 0, .null),
  (161, .aload_n 0, 0, 0, .null),
  (162, .iload_n 2, 2, 0, .null),
  (163, .iload_n 1, 1, 0, .null),
  (164, .invokevirtual 264, 0, 0, .null),
  (167, .ifCond .eq 46, 213, 0, .null),
  (170, .aload_n 0, 0, 0, .null),
  (171, .getfield 124, 46, 7, .null),
  (174, .iload_n 1, 1, 0, .null),
  (175, .iload_n 2, 2, 0, .null),
  (176, .iastore, 0, 0, .null),
  (177, .aload_n 0, 0, 0, .null),
  (178, .getfield 130, 48, 7, .null),
  (181, .iload_n 2, 2, 0, .null),
  (182, .aload_n 0, 0, 0, .null),
  (183, .getfield 130, 48, 7, .null),
  (186, .iload_n 2, 2, 0, .null),
  (187, .iaload, 0, 0, .null),
  (188, .aload_n 0, 0, 0, .null),
  (189, .getfield 13, 2, 7, .null),
  (192, .iload_n 1, 1, 0, .null),
  (193, .iaload, 0, 0, .null),
  (194, .if_icmp .ge 12, 206, 0, .null),
  (197, .aload_n 0, 0, 0, .null)]
theorem o_Mo_joins_1 : xchk (yB y_Mo_joins) xk_Mo (r_Mo_joins_1 ++ [(198, .getfield 13, 2, 7, .null)]) = true := by decide +kernel
def r_Mo_joins_2 : List xRw := [(198, .getfield 13, 2, 7, .null),
  (201, .iload_n 1, 1, 0, .null),
  (202, .iaload, 0, 0, .null),
  (203, .goto 9, 212, 0, .null),
  (206, .aload_n 0, 0, 0, .null),
  (207, .getfield 130, 48, 7, .null),
  (210, .iload_n 2, 2, 0, .null),
  (211, .iaload, 0, 0, .null),
  (212, .iastore, 0, 0, .null),
  (213, .iinc 2 1, 2, 0, .int 1),
  (216, .goto (-113), 103, 0, .null),
  (219, .iinc 1 1, 1, 0, .int 1),
  (222, .goto (-127), 95, 0, .null),
  (225, .iconst 0, 0, 0, .int 0),
  (226, .istore_n 1, 1, 0, .null),
  (227, .iload_n 1, 1, 0, .null),
  (228, .bipush 24, 0, 0, .int 24),
  (230, .if_icmp .ge 180, 410, 0, .null),
  (233, .aload_n 0, 0, 0, .null),
  (234, .getfield 136, 50, 7, .null),
  (237, .iload_n 1, 1, 0, .null),
  (238, .baload, 0, 0, .null),
  (239, .ifCond .eq 165, 404, 0, .null),
  (242, .aload_n 0, 0, 0, .null),
  (243, .getfield 124, 46, 7, .null),
  (246, .iload_n 1, 1, 0, .null),
  (247, .iaload, 0, 0, .null),
  (248, .iconst (-1), 0, 0, .int (-1)),
  (249, .if_icmp .ne 155, 404, 0, .null),
  (252, .aload_n 0, 0, 0, .null),
  (253, .getfield 139, 51, 7, .null),
  (256, .iload_n 1, 1, 0, .null),
  (257, .baload, 0, 0, .null),
  (258, .ifCond .eq 6, 264, 0, .null),
  (261, .goto 143, 404, 0, .null),
  (264, .iconst 0, 0, 0, .int 0),
  (265, .istore_n 2, 2, 0, .null),
  (266, .iload_n 2, 2, 0, .null),
  (267, .bipush 24, 0, 0, .int 24),
  (269, .if_icmp .ge 135, 404, 0, .null),
  (272, .aload_n 0, 0, 0, .null),
  (273, .getfield 127, 47, 7, .null),
  (276, .iload_n 1, 1, 0, .null),
  (277, .iaload, 0, 0, .null),
  (278, .iconst (-1), 0, 0, .int (-1)),
  (279, .if_icmp .ne 125, 404, 0, .null),
  (282, .aload_n 0, 0, 0, .null),
  (283, .getfield 136, 50, 7, .null),
  (286, .iload_n 2, 2, 0, .null),
  (287, .baload, 0, 0, .null),
  (288, .ifCond .eq 51, 339, 0, .null),
  (291, .aload_n 0, 0, 0, .null),
  (292, .getfield 124, 46, 7, .null),
  (295, .iload_n 2, 2, 0, .null),
  (296, .iaload, 0, 0, .null),
  (297, .iconst (-1), 0, 0, .int (-1)),
  (298, .if_icmp .ne 41, 339, 0, .null),
  (301, .aload_n 0, 0, 0, .null),
  (302, .getfield 9, 1, 7, .null),
  (305, .iload_n 2, 2, 0, .null)]
theorem o_Mo_joins_2 : xchk (yB y_Mo_joins) xk_Mo (r_Mo_joins_2 ++ [(306, .iaload, 0, 0, .null)]) = true := by decide +kernel
def r_Mo_joins_3 : List xRw := [(306, .iaload, 0, 0, .null),
  (307, .aload_n 0, 0, 0, .null),
  (308, .getfield 9, 1, 7, .null),
  (311, .iload_n 1, 1, 0, .null),
  (312, .iaload, 0, 0, .null),
  (313, .if_icmp .le 26, 339, 0, .null),
  (316, .aload_n 0, 0, 0, .null),
  (317, .getfield 127, 47, 7, .null),
  (320, .iload_n 2, 2, 0, .null),
  (321, .iaload, 0, 0, .null),
  (322, .iconst (-1), 0, 0, .int (-1)),
  (323, .if_icmp .ne 16, 339, 0, .null),
  (326, .aload_n 0, 0, 0, .null),
  (327, .iload_n 2, 2, 0, .null),
  (328, .iload_n 1, 1, 0, .null),
  (329, .invokevirtual 264, 0, 0, .null),
  (332, .ifCond .eq 7, 339, 0, .null),
  (335, .iconst 1, 0, 0, .int 1),
  (336, .goto 4, 340, 0, .null),
  (339, .iconst 0, 0, 0, .int 0),
  (340, .istore_n 3, 3, 0, .null),
  (341, .iload_n 3, 3, 0, .null),
  (342, .ifCond .eq 56, 398, 0, .null),
  (345, .aload_n 0, 0, 0, .null),
  (346, .getfield 130, 48, 7, .null),
  (349, .iload_n 2, 2, 0, .null),
  (350, .iaload, 0, 0, .null),
  (351, .aload_n 0, 0, 0, .null),
  (352, .getfield 130, 48, 7, .null),
  (355, .iload_n 1, 1, 0, .null),
  (356, .iaload, 0, 0, .null),
  (357, .irem, 0, 0, .null),
  (358, .ifCond .ne 40, 398, 0, .null),
  (361, .aload_n 0, 0, 0, .null),
  (362, .getfield 9, 1, 7, .null),
  (365, .iload_n 2, 2, 0, .null),
  (366, .iaload, 0, 0, .null),
  (367, .aload_n 0, 0, 0, .null),
  (368, .getfield 9, 1, 7, .null),
  (371, .iload_n 1, 1, 0, .null),
  (372, .iaload, 0, 0, .null),
  (373, .isub, 0, 0, .null),
  (374, .aload_n 0, 0, 0, .null),
  (375, .getfield 130, 48, 7, .null),
  (378, .iload_n 1, 1, 0, .null),
  (379, .iaload, 0, 0, .null),
  (380, .irem, 0, 0, .null),
  (381, .ifCond .ne 17, 398, 0, .null),
  (384, .aload_n 0, 0, 0, .null),
  (385, .getfield 127, 47, 7, .null),
  (388, .iload_n 1, 1, 0, .null),
  (389, .iload_n 2, 2, 0, .null),
  (390, .iastore, 0, 0, .null),
  (391, .aload_n 0, 0, 0, .null),
  (392, .getfield 139, 51, 7, .null),
  (395, .iload_n 2, 2, 0, .null),
  (396, .iconst 1, 0, 0, .int 1),
  (397, .bastore, 0, 0, .null),
  (398, .iinc 2 1, 2, 0, .int 1),
  (401, .goto (-135), 266, 0, .null)]
theorem o_Mo_joins_3 : xchk (yB y_Mo_joins) xk_Mo (r_Mo_joins_3 ++ [(404, .iinc 1 1, 1, 0, .int 1)]) = true := by decide +kernel
def r_Mo_joins_4 : List xRw := [(404, .iinc 1 1, 1, 0, .int 1),
  (407, .goto (-180), 227, 0, .null),
  (410, .aload_n 0, 0, 0, .null),
  (411, .iconst 0, 0, 0, .int 0),
  (412, .putfield 267, 56, 7, .int 0),
  (415, .iconst 0, 0, 0, .int 0),
  (416, .istore_n 1, 1, 0, .null),
  (417, .iload_n 1, 1, 0, .null),
  (418, .bipush 24, 0, 0, .int 24),
  (420, .if_icmp .ge 58, 478, 0, .null),
  (423, .aload_n 0, 0, 0, .null),
  (424, .getfield 106, 40, 7, .null),
  (427, .iload_n 1, 1, 0, .null),
  (428, .baload, 0, 0, .null),
  (429, .ifCond .eq 43, 472, 0, .null),
  (432, .aload_n 0, 0, 0, .null),
  (433, .getfield 124, 46, 7, .null),
  (436, .iload_n 1, 1, 0, .null),
  (437, .iaload, 0, 0, .null),
  (438, .iconst (-1), 0, 0, .int (-1)),
  (439, .if_icmp .ne 33, 472, 0, .null),
  (442, .aload_n 0, 0, 0, .null),
  (443, .getfield 127, 47, 7, .null),
  (446, .iload_n 1, 1, 0, .null),
  (447, .iaload, 0, 0, .null),
  (448, .iconst (-1), 0, 0, .int (-1)),
  (449, .if_icmp .ne 23, 472, 0, .null),
  (452, .aload_n 0, 0, 0, .null),
  (453, .getfield 142, 52, 7, .null),
  (456, .aload_n 0, 0, 0, .null),
  (457, .getfield 267, 56, 7, .null),
  (460, .iload_n 1, 1, 0, .null),
  (461, .iastore, 0, 0, .null),
  (462, .aload_n 0, 0, 0, .null),
  (463, .dup, 0, 0, .null),
  (464, .getfield 267, 56, 7, .null),
  (467, .iconst 1, 0, 0, .int 1),
  (468, .iadd, 0, 0, .null),
  (469, .putfield 267, 56, 7, .int 0),
  (472, .iinc 1 1, 1, 0, .int 1),
  (475, .goto (-58), 417, 0, .null),
  (478, .return_, 0, 0, .null),
  (479, .nop, 0, 0, .null)]
theorem o_Mo_joins_4 : xchk (yB y_Mo_joins) xk_Mo (r_Mo_joins_4) = true := by decide +kernel
set_option maxRecDepth 20000 in
theorem o_Mo_joins : xOK y_Mo_joins xk_Mo r_Mo_joins := ⟨xk_Mo_ok, (xchk_app r_Mo_joins_0 _ _ o_Mo_joins_0 (xchk_app r_Mo_joins_1 _ _ o_Mo_joins_1 (xchk_app r_Mo_joins_2 _ _ o_Mo_joins_2 (xchk_app r_Mo_joins_3 _ _ o_Mo_joins_3 o_Mo_joins_4))))⟩
def y_Mo_refers : xMD := (⟨"DataShrinkerModel", "refers", "(I)Z"⟩, prog_10_method_39_code, 4, (some .boolean), { frames := 0, cells := 0, slots := 0, locals := 0 })
def r_Mo_refers : List xRw := [(0, .iconst 0, 0, 0, .int 0),
  (1, .istore_n 2, 2, 0, .null),
  (2, .iconst 0, 0, 0, .int 0),
  (3, .istore_n 3, 3, 0, .null),
  (4, .iload_n 3, 3, 0, .null),
  (5, .aload_n 0, 0, 0, .null),
  (6, .getfield 9, 1, 7, .null),
  (9, .iload_n 1, 1, 0, .null),
  (10, .iaload, 0, 0, .null),
  (11, .if_icmp .ge 34, 45, 0, .null),
  (14, .iload_n 2, 2, 0, .null),
  (15, .ifCond .ne 18, 33, 0, .null),
  (18, .aload_n 0, 0, 0, .null),
  (19, .getfield 22, 5, 7, .null),
  (22, .bipush 64, 0, 0, .int 64),
  (24, .iload_n 1, 1, 0, .null),
  (25, .imul, 0, 0, .null),
  (26, .iload_n 3, 3, 0, .null),
  (27, .iadd, 0, 0, .null),
  (28, .iaload, 0, 0, .null),
  (29, .iconst (-1), 0, 0, .int (-1)),
  (30, .if_icmp .eq 7, 37, 0, .null),
  (33, .iconst 1, 0, 0, .int 1),
  (34, .goto 4, 38, 0, .null),
  (37, .iconst 0, 0, 0, .int 0),
  (38, .istore_n 2, 2, 0, .null),
  (39, .iinc 3 1, 3, 0, .int 1),
  (42, .goto (-38), 4, 0, .null),
  (45, .iload_n 2, 2, 0, .null),
  (46, .ireturn, 0, 0, .null),
  (47, .nop, 0, 0, .null)]
theorem o_Mo_refers : xOK y_Mo_refers xk_Mo r_Mo_refers := ⟨xk_Mo_ok, by decide +kernel⟩
def y_Mo_endsWith : xMD := (⟨"DataShrinkerModel", "endsWith", "(II)Z"⟩, prog_10_method_40_code, 5, (some .boolean), { frames := 0, cells := 0, slots := 0, locals := 0 })
def r_Mo_endsWith : List xRw := [(0, .aload_n 0, 0, 0, .null),
  (1, .getfield 9, 1, 7, .null),
  (4, .iload_n 1, 1, 0, .null),
  (5, .iaload, 0, 0, .null),
  (6, .aload_n 0, 0, 0, .null),
  (7, .getfield 9, 1, 7, .null),
  (10, .iload_n 2, 2, 0, .null),
  (11, .iaload, 0, 0, .null),
  (12, .if_icmp .lt 7, 19, 0, .null),
  (15, .iconst 1, 0, 0, .int 1),
  (16, .goto 4, 20, 0, .null),
  (19, .iconst 0, 0, 0, .int 0),
  (20, .istore_n 3, 3, 0, .null),
  (21, .iconst 0, 0, 0, .int 0),
  (22, .istore 4, 4, 0, .null),
  (24, .iload 4, 4, 0, .null),
  (26, .aload_n 0, 0, 0, .null),
  (27, .getfield 9, 1, 7, .null),
  (30, .iload_n 2, 2, 0, .null),
  (31, .iaload, 0, 0, .null),
  (32, .if_icmp .ge 60, 92, 0, .null),
  (35, .iload_n 3, 3, 0, .null),
  (36, .ifCond .eq 56, 92, 0, .null),
  (39, .aload_n 0, 0, 0, .null),
  (40, .getfield 19, 4, 7, .null),
  (43, .bipush 64, 0, 0, .int 64),
  (45, .iload_n 1, 1, 0, .null),
  (46, .imul, 0, 0, .null),
  (47, .aload_n 0, 0, 0, .null),
  (48, .getfield 9, 1, 7, .null),
  (51, .iload_n 1, 1, 0, .null),
  (52, .iaload, 0, 0, .null),
  (53, .iadd, 0, 0, .null),
  (54, .aload_n 0, 0, 0, .null),
  (55, .getfield 9, 1, 7, .null),
  (58, .iload_n 2, 2, 0, .null),
  (59, .iaload, 0, 0, .null),
  (60, .isub, 0, 0, .null),
  (61, .iload 4, 4, 0, .null),
  (63, .iadd, 0, 0, .null),
  (64, .iaload, 0, 0, .null),
  (65, .aload_n 0, 0, 0, .null),
  (66, .getfield 19, 4, 7, .null),
  (69, .bipush 64, 0, 0, .int 64),
  (71, .iload_n 2, 2, 0, .null),
  (72, .imul, 0, 0, .null),
  (73, .iload 4, 4, 0, .null),
  (75, .iadd, 0, 0, .null),
  (76, .iaload, 0, 0, .null),
  (77, .if_icmp .ne 7, 84, 0, .null),
  (80, .iconst 1, 0, 0, .int 1),
  (81, .goto 4, 85, 0, .null),
  (84, .iconst 0, 0, 0, .int 0),
  (85, .istore_n 3, 3, 0, .null),
  (86, .iinc 4 1, 4, 0, .int 1),
  (89, .goto (-65), 24, 0, .null),
  (92, .iload_n 3, 3, 0, .null),
  (93, .ireturn, 0, 0, .null),
  (94, .nop, 0, 0, .null)]
theorem o_Mo_endsWith : xOK y_Mo_endsWith xk_Mo r_Mo_endsWith := ⟨xk_Mo_ok, by decide +kernel⟩
def y_Mo_tries : xMD := (⟨"DataShrinkerModel", "tries", "()V"⟩, prog_10_method_44_code, 7, none, { frames := 2, cells := 0, slots := 0, locals := 43 })
def r_Mo_tries : List xRw := [(0, .iconst 1, 0, 0, .int 1),
  (1, .istore_n 1, 1, 0, .null),
  (2, .iconst 0, 0, 0, .int 0),
  (3, .istore_n 2, 2, 0, .null),
  (4, .iload_n 2, 2, 0, .null),
  (5, .aload_n 0, 0, 0, .null),
  (6, .getfield 267, 56, 7, .null),
  (9, .if_icmp .ge 16, 25, 0, .null),
  (12, .iload_n 1, 1, 0, .null),
  (13, .aload_n 0, 0, 0, .null),
  (14, .getfield 267, 56, 7, .null),
  (17, .imul, 0, 0, .null),
  (18, .istore_n 1, 1, 0, .null),
  (19, .iinc 2 1, 2, 0, .int 1),
  (22, .goto (-18), 4, 0, .null),
  (25, .aload_n 0, 0, 0, .null),
  (26, .iconst (-1), 0, 0, .int (-1)),
  (27, .putfield 273, 58, 7, .int 0),
  (30, .iconst 0, 0, 0, .int 0),
  (31, .istore_n 2, 2, 0, .null),
  (32, .iload_n 2, 2, 0, .null),
  (33, .iload_n 1, 1, 0, .null),
  (34, .if_icmp .ge 182, 216, 0, .null),
  (37, .iload_n 2, 2, 0, .null),
  (38, .istore_n 3, 3, 0, .null),
  (39, .iconst 1, 0, 0, .int 1),
  (40, .istore 4, 4, 0, .null),
  (42, .iconst 0, 0, 0, .int 0),
  (43, .istore 5, 5, 0, .null),
  (45, .iload 5, 5, 0, .null),
  (47, .aload_n 0, 0, 0, .null),
  (48, .getfield 267, 56, 7, .null),
  (51, .if_icmp .ge 17, 68, 0, .null),
  (54, .aload_n 0, 0, 0, .null),
  (55, .getfield 151, 55, 7, .null),
  (58, .iload 5, 5, 0, .null),
  (60, .iconst 0, 0, 0, .int 0),
  (61, .bastore, 0, 0, .null),
  (62, .iinc 5 1, 5, 0, .int 1),
  (65, .goto (-20), 45, 0, .null),
  (68, .aload_n 0, 0, 0, .null),
  (69, .getfield 267, 56, 7, .null),
  (72, .iconst 1, 0, 0, .int 1),
  (73, .isub, 0, 0, .null),
  (74, .istore 5, 5, 0, .null),
  (76, .iload 5, 5, 0, .null),
  (78, .ifCond .lt 68, 146, 0, .null),
  (81, .iload_n 3, 3, 0, .null),
  (82, .aload_n 0, 0, 0, .null),
  (83, .getfield 267, 56, 7, .null),
  (86, .irem, 0, 0, .null),
  (87, .istore 6, 6, 0, .null),
  (89, .iload_n 3, 3, 0, .null),
  (90, .aload_n 0, 0, 0, .null),
  (91, .getfield 267, 56, 7, .null),
  (94, .idiv, 0, 0, .null),
  (95, .istore_n 3, 3, 0, .null),
  (96, .iload 4, 4, 0, .null),
  (98, .ifCond .eq 17, 115, 0, .null),
  (101, .aload_n 0, 0, 0, .null),
  (102, .getfield 151, 55, 7, .null),
  (105, .iload 6, 6, 0, .null),
  (107, .baload, 0, 0, .null),
  (108, .ifCond .ne 7, 115, 0, .null),
  (111, .iconst 1, 0, 0, .int 1),
  (112, .goto 4, 116, 0, .null),
  (115, .iconst 0, 0, 0, .int 0),
  (116, .istore 4, 4, 0, .null),
  (118, .aload_n 0, 0, 0, .null),
  (119, .getfield 151, 55, 7, .null),
  (122, .iload 6, 6, 0, .null),
  (124, .iconst 1, 0, 0, .int 1),
  (125, .bastore, 0, 0, .null),
  (126, .aload_n 0, 0, 0, .null),
  (127, .getfield 145, 53, 7, .null),
  (130, .iload 5, 5, 0, .null),
  (132, .aload_n 0, 0, 0, .null),
  (133, .getfield 142, 52, 7, .null),
  (136, .iload 6, 6, 0, .null),
  (138, .iaload, 0, 0, .null),
  (139, .iastore, 0, 0, .null),
  (140, .iinc 5 (-1), 5, 0, .int (-1)),
  (143, .goto (-67), 76, 0, .null),
  (146, .iload 4, 4, 0, .null),
  (148, .ifCond .eq 62, 210, 0, .null),
  (151, .aload_n 0, 0, 0, .null),
  (152, .getfield 273, 58, 7, .null),
  (155, .iconst (-1), 0, 0, .int (-1)),
  (156, .if_icmp .eq 14, 170, 0, .null),
  (159, .aload_n 0, 0, 0, .null),
  (160, .invokevirtual 276, 0, 0, .null),
  (163, .aload_n 0, 0, 0, .null),
  (164, .getfield 273, 58, 7, .null),
  (167, .if_icmp .ge 43, 210, 0, .null),
  (170, .aload_n 0, 0, 0, .null),
  (171, .aload_n 0, 0, 0, .null),
  (172, .invokevirtual 276, 0, 0, .null),
  (175, .putfield 273, 58, 7, .int 0),
  (178, .iconst 0, 0, 0, .int 0),
  (179, .istore 5, 5, 0, .null),
  (181, .iload 5, 5, 0, .null),
  (183, .aload_n 0, 0, 0, .null),
  (184, .getfield 267, 56, 7, .null),
  (187, .if_icmp .ge 23, 210, 0, .null),
  (190, .aload_n 0, 0, 0, .null),
  (191, .getfield 148, 54, 7, .null),
  (194, .iload 5, 5, 0, .null),
  (196, .aload_n 0, 0, 0, .null),
  (197, .getfield 145, 53, 7, .null),
  (200, .iload 5, 5, 0, .null),
  (202, .iaload, 0, 0, .null),
  (203, .iastore, 0, 0, .null),
  (204, .iinc 5 1, 5, 0, .int 1),
  (207, .goto (-26), 181, 0, .null),
  (210, .iinc 2 1, 2, 0, .int 1),
  (213, .goto (-181), 32, 0, .null),
  (216, .return_, 0, 0, .null),
  (217, .nop, 0, 0, .null)]
theorem o_Mo_tries : xOK y_Mo_tries xk_Mo r_Mo_tries := ⟨xk_Mo_ok, by decide +kernel⟩
def y_Mo_bytesOf : xMD := (⟨"DataShrinkerModel", "bytesOf", "()I"⟩, prog_10_method_43_code, 3, (some .int), { frames := 1, cells := 0, slots := 0, locals := 21 })
def r_Mo_bytesOf : List xRw := [(0, .iconst 0, 0, 0, .int 0),
  (1, .istore_n 1, 1, 0, .null),
  (2, .iconst 0, 0, 0, .int 0),
  (3, .istore_n 2, 2, 0, .null),
  (4, .iload_n 2, 2, 0, .null),
  (5, .aload_n 0, 0, 0, .null),
  (6, .getfield 267, 56, 7, .null),
  (9, .if_icmp .ge 37, 46, 0, .null),
  (12, .iload_n 1, 1, 0, .null),
  (13, .aload_n 0, 0, 0, .null),
  (14, .getfield 130, 48, 7, .null),
  (17, .aload_n 0, 0, 0, .null),
  (18, .getfield 145, 53, 7, .null),
  (21, .iload_n 2, 2, 0, .null),
  (22, .iaload, 0, 0, .null),
  (23, .iaload, 0, 0, .null),
  (24, .invokestatic 270, 0, 0, .null),
  (27, .aload_n 0, 0, 0, .null),
  (28, .getfield 9, 1, 7, .null),
  (31, .aload_n 0, 0, 0, .null),
  (32, .getfield 145, 53, 7, .null),
  (35, .iload_n 2, 2, 0, .null),
  (36, .iaload, 0, 0, .null),
  (37, .iaload, 0, 0, .null),
  (38, .iadd, 0, 0, .null),
  (39, .istore_n 1, 1, 0, .null),
  (40, .iinc 2 1, 2, 0, .int 1),
  (43, .goto (-39), 4, 0, .null),
  (46, .iload_n 1, 1, 0, .null),
  (47, .ireturn, 0, 0, .null),
  (48, .nop, 0, 0, .null)]
theorem o_Mo_bytesOf : xOK y_Mo_bytesOf xk_Mo r_Mo_bytesOf := ⟨xk_Mo_ok, by decide +kernel⟩
def y_Mo_next : xMD := (⟨"DataShrinkerModel", "next", "(II)I"⟩, prog_10_method_42_code, 2, (some .int), { frames := 0, cells := 0, slots := 0, locals := 0 })
def r_Mo_next : List xRw := [(0, .iload_n 0, 0, 0, .null),
  (1, .iload_n 1, 1, 0, .null),
  (2, .iadd, 0, 0, .null),
  (3, .iconst 1, 0, 0, .int 1),
  (4, .isub, 0, 0, .null),
  (5, .iload_n 1, 1, 0, .null),
  (6, .idiv, 0, 0, .null),
  (7, .iload_n 1, 1, 0, .null),
  (8, .imul, 0, 0, .null),
  (9, .ireturn, 0, 0, .null),
  (10, .nop, 0, 0, .null)]
theorem o_Mo_next : xOK y_Mo_next xk_Mo r_Mo_next := ⟨xk_Mo_ok, by decide +kernel⟩
def y_Mo_kept : xMD := (⟨"DataShrinkerModel", "kept", "(II)I"⟩, prog_10_method_48_code, 5, (some .int), { frames := 2, cells := 0, slots := 0, locals := 43 })
def r_Mo_kept : List xRw := [(0, .aload_n 0, 0, 0, .null),
  (1, .iload_n 1, 1, 0, .null),
  (2, .invokevirtual 301, 0, 0, .null),
  (5, .ifCond .ne 5, 10, 0, .null),
  (8, .iconst (-1), 0, 0, .int (-1)),
  (9, .ireturn, 0, 0, .null),
  (10, .iconst 0, 0, 0, .int 0),
  (11, .istore_n 3, 3, 0, .null),
  (12, .iconst 0, 0, 0, .int 0),
  (13, .istore 4, 4, 0, .null),
  (15, .iload 4, 4, 0, .null),
  (17, .aload_n 0, 0, 0, .null),
  (18, .getfield 115, 43, 7, .null),
  (21, .iload_n 1, 1, 0, .null),
  (22, .iaload, 0, 0, .null),
  (23, .if_icmp .ge 32, 55, 0, .null),
  (26, .iload_n 3, 3, 0, .null),
  (27, .aload_n 0, 0, 0, .null),
  (28, .getfield 88, 33, 7, .null),
  (31, .bipush 64, 0, 0, .int 64),
  (33, .iload_n 1, 1, 0, .null),
  (34, .imul, 0, 0, .null),
  (35, .iload 4, 4, 0, .null),
  (37, .iadd, 0, 0, .null),
  (38, .baload, 0, 0, .null),
  (39, .ifCond .eq 7, 46, 0, .null),
  (42, .iconst 1, 0, 0, .int 1),
  (43, .goto 4, 47, 0, .null),
  (46, .iconst 0, 0, 0, .int 0),
  (47, .iadd, 0, 0, .null),
  (48, .istore_n 3, 3, 0, .null),
  (49, .iinc 4 1, 4, 0, .int 1),
  (52, .goto (-37), 15, 0, .null),
  (55, .iload_n 2, 2, 0, .null),
  (56, .tableswitch 147 0 6 #[44, 59, 61, 76, 91, 111, 137], 0, 0, .null),
  (100, .aload_n 0, 0, 0, .null),
  (101, .getfield 106, 40, 7, .null),
  (104, .iload_n 1, 1, 0, .null),
  (105, .baload, 0, 0, .null),
  (106, .ifCond .eq 7, 113, 0, .null),
  (109, .iconst 1, 0, 0, .int 1),
  (110, .goto 4, 114, 0, .null),
  (113, .iconst 0, 0, 0, .int 0),
  (114, .ireturn, 0, 0, .null),
  (115, .iload_n 3, 3, 0, .null),
  (116, .ireturn, 0, 0, .null),
  (117, .aload_n 0, 0, 0, .null),
  (118, .getfield 94, 35, 7, .null),
  (121, .iload_n 1, 1, 0, .null),
  (122, .baload, 0, 0, .null),
  (123, .ifCond .eq 7, 130, 0, .null),
  (126, .iconst 1, 0, 0, .int 1),
  (127, .goto 4, 131, 0, .null),
  (130, .iconst 0, 0, 0, .int 0),
  (131, .ireturn, 0, 0, .null),
  (132, .aload_n 0, 0, 0, .null),
  (133, .getfield 97, 36, 7, .null),
  (136, .iload_n 1, 1, 0, .null),
  (137, .baload, 0, 0, .null),
  (138, .ifCond .eq 7, 145, 0, .null),
  (141, .iconst 1, 0, 0, .int 1),
  (142, .goto 4, 146, 0, .null),
  (145, .iconst 0, 0, 0, .int 0),
  (146, .ireturn, 0, 0, .null),
  (147, .aload_n 0, 0, 0, .null),
  (148, .getfield 106, 40, 7, .null),
  (151, .iload_n 1, 1, 0, .null),
  (152, .baload, 0, 0, .null),
  (153, .ifCond .eq 12, 165, 0, .null),
  (156, .aload_n 0, 0, 0, .null),
  (157, .getfield 121, 45, 7, .null),
  (160, .iload_n 1, 1, 0, .null),
  (161, .iaload, 0, 0, .null),
  (162, .goto 4, 166, 0, .null),
  (165, .iconst (-1), 0, 0, .int (-1)),
  (166, .ireturn, 0, 0, .null),
  (167, .aload_n 0, 0, 0, .null),
  (168, .getfield 124, 46, 7, .null),
  (171, .iload_n 1, 1, 0, .null),
  (172, .iaload, 0, 0, .null),
  (173, .iconst (-1), 0, 0, .int (-1)),
  (174, .if_icmp .eq 12, 186, 0, .null),
  (177, .aload_n 0, 0, 0, .null),
  (178, .getfield 124, 46, 7, .null),
  (181, .iload_n 1, 1, 0, .null),
  (182, .iaload, 0, 0, .null),
  (183, .goto 9, 192, 0, .null),
  (186, .aload_n 0, 0, 0, .null),
  (187, .getfield 127, 47, 7, .null),
  (190, .iload_n 1, 1, 0, .null),
  (191, .iaload, 0, 0, .null),
  (192, .ireturn, 0, 0, .null),
  (193, .aload_n 0, 0, 0, .null),
  (194, .getfield 112, 42, 7, .null),
  (197, .bipush 12, 0, 0, .int 12),
  (199, .iload_n 1, 1, 0, .null),
  (200, .iadd, 0, 0, .null),
  (201, .iaload, 0, 0, .null),
  (202, .ireturn, 0, 0, .null),
  (203, .iconst (-1), 0, 0, .int (-1)),
  (204, .ireturn, 0, 0, .null),
  (205, .nop, 0, 0, .null)]
theorem o_Mo_kept : xOK y_Mo_kept xk_Mo r_Mo_kept := ⟨xk_Mo_ok, by decide +kernel⟩
def y_Mo_wasItem : xMD := (⟨"DataShrinkerModel", "wasItem", "(I)Z"⟩, prog_10_method_47_code, 2, (some .boolean), { frames := 1, cells := 0, slots := 0, locals := 22 })
def r_Mo_wasItem : List xRw := [(0, .aload_n 0, 0, 0, .null),
  (1, .getfield 205, 27, 7, .null),
  (4, .ifCond .eq 26, 30, 0, .null),
  (7, .iload_n 1, 1, 0, .null),
  (8, .iconst 0, 0, 0, .int 0),
  (9, .bipush 23, 0, 0, .int 23),
  (11, .invokestatic 157, 0, 0, .null),
  (14, .ifCond .eq 16, 30, 0, .null),
  (17, .aload_n 0, 0, 0, .null),
  (18, .getfield 115, 43, 7, .null),
  (21, .iload_n 1, 1, 0, .null),
  (22, .iaload, 0, 0, .null),
  (23, .ifCond .le 7, 30, 0, .null),
  (26, .iconst 1, 0, 0, .int 1),
  (27, .goto 4, 31, 0, .null),
  (30, .iconst 0, 0, 0, .int 0),
  (31, .ireturn, 0, 0, .null),
  (32, .nop, 0, 0, .null)]
theorem o_Mo_wasItem : xOK y_Mo_wasItem xk_Mo r_Mo_wasItem := ⟨xk_Mo_ok, by decide +kernel⟩
def y_Mo_read : xMD := (⟨"DataShrinkerModel", "read", "(II)I"⟩, prog_10_method_49_code, 3, (some .int), { frames := 2, cells := 0, slots := 0, locals := 43 })
def r_Mo_read : List xRw := [(0, .aload_n 0, 0, 0, .null),
  (1, .iload_n 1, 1, 0, .null),
  (2, .invokevirtual 301, 0, 0, .null),
  (5, .ifCond .eq 41, 46, 0, .null),
  (8, .iload_n 2, 2, 0, .null),
  (9, .iconst 0, 0, 0, .int 0),
  (10, .aload_n 0, 0, 0, .null),
  (11, .getfield 115, 43, 7, .null),
  (14, .iload_n 1, 1, 0, .null),
  (15, .iaload, 0, 0, .null),
  (16, .iconst 1, 0, 0, .int 1),
  (17, .isub, 0, 0, .null),
  (18, .invokestatic 157, 0, 0, .null),
  (21, .ifCond .eq 25, 46, 0, .null),
  (24, .aload_n 0, 0, 0, .null),
  (25, .getfield 88, 33, 7, .null),
  (28, .bipush 64, 0, 0, .int 64),
  (30, .iload_n 1, 1, 0, .null),
  (31, .imul, 0, 0, .null),
  (32, .iload_n 2, 2, 0, .null),
  (33, .iadd, 0, 0, .null),
  (34, .baload, 0, 0, .null),
  (35, .ifCond .eq 7, 42, 0, .null),
  (38, .iconst 1, 0, 0, .int 1),
  (39, .goto 8, 47, 0, .null),
  (42, .iconst 0, 0, 0, .int 0),
  (43, .goto 4, 47, 0, .null),
  (46, .iconst (-1), 0, 0, .int (-1)),
  (47, .ireturn, 0, 0, .null),
  (48, .nop, 0, 0, .null)]
theorem o_Mo_read : xOK y_Mo_read xk_Mo r_Mo_read := ⟨xk_Mo_ok, by decide +kernel⟩
def y_Mo_function : xMD := (⟨"DataShrinkerModel", "function", "(II)I"⟩, prog_10_method_50_code, 5, (some .int), { frames := 1, cells := 0, slots := 0, locals := 22 })
def r_Mo_function : List xRw := [(0, .aload_n 0, 0, 0, .null),
  (1, .getfield 205, 27, 7, .null),
  (4, .ifCond .eq 13, 17, 0, .null),
  (7, .iload_n 1, 1, 0, .null),
  (8, .iconst 0, 0, 0, .int 0),
  (9, .bipush 11, 0, 0, .int 11),
  (11, .invokestatic 157, 0, 0, .null),
  (14, .ifCond .ne 5, 19, 0, .null),
  (17, .iconst (-1), 0, 0, .int (-1)),
  (18, .ireturn, 0, 0, .null),
  (19, .iconst 0, 0, 0, .int 0),
  (20, .istore_n 3, 3, 0, .null),
  (21, .iconst 0, 0, 0, .int 0),
  (22, .istore 4, 4, 0, .null),
  (24, .iload 4, 4, 0, .null),
  (26, .aload_n 0, 0, 0, .null),
  (27, .getfield 118, 44, 7, .null),
  (30, .iload_n 1, 1, 0, .null),
  (31, .iaload, 0, 0, .null),
  (32, .if_icmp .ge 32, 64, 0, .null),
  (35, .iload_n 3, 3, 0, .null),
  (36, .aload_n 0, 0, 0, .null),
  (37, .getfield 82, 31, 7, .null),
  (40, .bipush 41, 0, 0, .int 41),
  (42, .iload_n 1, 1, 0, .null),
  (43, .imul, 0, 0, .null),
  (44, .iload 4, 4, 0, .null),
  (46, .iadd, 0, 0, .null),
  (47, .baload, 0, 0, .null),
  (48, .ifCond .eq 7, 55, 0, .null),
  (51, .iconst 1, 0, 0, .int 1),
  (52, .goto 4, 56, 0, .null),
  (55, .iconst 0, 0, 0, .int 0),
  (56, .iadd, 0, 0, .null),
  (57, .istore_n 3, 3, 0, .null),
  (58, .iinc 4 1, 4, 0, .int 1),
  (61, .goto (-37), 24, 0, .null),
  (64, .iload_n 2, 2, 0, .null),
  (65, .ifCond .ne 20, 85, 0, .null),
  (68, .aload_n 0, 0, 0, .null),
  (69, .getfield 109, 41, 7, .null),
  (72, .iload_n 1, 1, 0, .null),
  (73, .baload, 0, 0, .null),
  (74, .ifCond .eq 7, 81, 0, .null),
  (77, .iconst 1, 0, 0, .int 1),
  (78, .goto 31, 109, 0, .null),
  (81, .iconst 0, 0, 0, .int 0),
  (82, .goto 27, 109, 0, .null),
  (85, .iload_n 2, 2, 0, .null),
  (86, .iconst 1, 0, 0, .int 1),
  (87, .if_icmp .ne 7, 94, 0, .null),
  (90, .iload_n 3, 3, 0, .null),
  (91, .goto 18, 109, 0, .null),
  (94, .iload_n 2, 2, 0, .null),
  (95, .iconst 2, 0, 0, .int 2),
  (96, .if_icmp .ne 12, 108, 0, .null),
  (99, .aload_n 0, 0, 0, .null),
  (100, .getfield 112, 42, 7, .null),
  (103, .iload_n 1, 1, 0, .null),
  (104, .iaload, 0, 0, .null),
  (105, .goto 4, 109, 0, .null),
  (108, .iconst (-1), 0, 0, .int (-1)),
  (109, .ireturn, 0, 0, .null),
  (110, .nop, 0, 0, .null)]
theorem o_Mo_function : xOK y_Mo_function xk_Mo r_Mo_function := ⟨xk_Mo_ok, by decide +kernel⟩
def y_Mo_values : xMD := (⟨"DataShrinkerModel", "values", "(III)I"⟩, prog_10_method_51_code, 6, (some .int), { frames := 2, cells := 0, slots := 0, locals := 42 })
def r_Mo_values : List xRw := [(0, .aload_n 0, 0, 0, .null),
  (1, .getfield 205, 27, 7, .null),
  (4, .ifCond .eq 36, 40, 0, .null),
  (7, .iload_n 1, 1, 0, .null),
  (8, .iconst 0, 0, 0, .int 0),
  (9, .bipush 11, 0, 0, .int 11),
  (11, .invokestatic 157, 0, 0, .null),
  (14, .ifCond .eq 26, 40, 0, .null),
  (17, .iload_n 2, 2, 0, .null),
  (18, .iconst 0, 0, 0, .int 0),
  (19, .aload_n 0, 0, 0, .null),
  (20, .getfield 118, 44, 7, .null),
  (23, .iload_n 1, 1, 0, .null),
  (24, .iaload, 0, 0, .null),
  (25, .iconst 1, 0, 0, .int 1),
  (26, .isub, 0, 0, .null),
  (27, .invokestatic 157, 0, 0, .null),
  (30, .ifCond .eq 10, 40, 0, .null),
  (33, .iload_n 3, 3, 0, .null),
  (34, .invokestatic 171, 0, 0, .null),
  (37, .ifCond .ne 5, 42, 0, .null),
  (40, .iconst (-1), 0, 0, .int (-1)),
  (41, .ireturn, 0, 0, .null),
  (42, .iconst 0, 0, 0, .int 0),
  (43, .istore 4, 4, 0, .null),
  (45, .iconst 0, 0, 0, .int 0),
  (46, .istore 5, 5, 0, .null),
  (48, .iload 5, 5, 0, .null),
  (50, .sipush 256, 0, 0, .int 256),
  (53, .if_icmp .ge 45, 98, 0, .null),
  (56, .iload 4, 4, 0, .null),
  (58, .aload_n 0, 0, 0, .null),
  (59, .aload_n 0, 0, 0, .null),
  (60, .getfield 72, 28, 7, .null),
  (63, .bipush 16, 0, 0, .int 16),
  (65, .bipush 41, 0, 0, .int 41),
  (67, .iload_n 1, 1, 0, .null),
  (68, .imul, 0, 0, .null),
  (69, .iload_n 2, 2, 0, .null),
  (70, .iadd, 0, 0, .null),
  (71, .imul, 0, 0, .null),
  (72, .iconst 4, 0, 0, .int 4),
  (73, .iload_n 3, 3, 0, .null),
  (74, .imul, 0, 0, .null),
  (75, .iadd, 0, 0, .null),
  (76, .iload 5, 5, 0, .null),
  (78, .invokevirtual 214, 0, 0, .null),
  (81, .ifCond .eq 7, 88, 0, .null),
  (84, .iconst 1, 0, 0, .int 1),
  (85, .goto 4, 89, 0, .null),
  (88, .iconst 0, 0, 0, .int 0),
  (89, .iadd, 0, 0, .null),
  (90, .istore 4, 4, 0, .null),
  (92, .iinc 5 1, 5, 0, .int 1),
  (95, .goto (-47), 48, 0, .null),
  (98, .iload 4, 4, 0, .null),
  (100, .ireturn, 0, 0, .null),
  (101, .nop, 0, 0, .null)]
theorem o_Mo_values : xOK y_Mo_values xk_Mo r_Mo_values := ⟨xk_Mo_ok, by decide +kernel⟩
def y_Mo_octet : xMD := (⟨"DataShrinkerModel", "octet", "(I)I"⟩, prog_10_method_52_code, 2, (some .int), { frames := 1, cells := 0, slots := 0, locals := 22 })
def r_Mo_octet : List xRw := [(0, .aload_n 0, 0, 0, .null),
  (1, .getfield 205, 27, 7, .null),
  (4, .ifCond .eq 26, 30, 0, .null),
  (7, .iload_n 1, 1, 0, .null),
  (8, .iconst 0, 0, 0, .int 0),
  (9, .aload_n 0, 0, 0, .null),
  (10, .getfield 286, 57, 7, .null),
  (13, .iconst 1, 0, 0, .int 1),
  (14, .isub, 0, 0, .null),
  (15, .invokestatic 157, 0, 0, .null),
  (18, .ifCond .eq 12, 30, 0, .null),
  (21, .aload_n 0, 0, 0, .null),
  (22, .getfield 133, 49, 7, .null),
  (25, .iload_n 1, 1, 0, .null),
  (26, .iaload, 0, 0, .null),
  (27, .goto 4, 31, 0, .null),
  (30, .iconst (-1), 0, 0, .int (-1)),
  (31, .ireturn, 0, 0, .null),
  (32, .nop, 0, 0, .null)]
theorem o_Mo_octet : xOK y_Mo_octet xk_Mo r_Mo_octet := ⟨xk_Mo_ok, by decide +kernel⟩
def y_Mo_shrunk : xMD := (⟨"DataShrinkerModel", "shrunk", "(I)I"⟩, prog_10_method_53_code, 8, (some .int), { frames := 0, cells := 0, slots := 0, locals := 0 })
def r_Mo_shrunk : List xRw := [(0, .aload_n 0, 0, 0, .null),
  (1, .getfield 205, 27, 7, .null),
  (4, .ifCond .ne 5, 9, 0, .null),
  (7, .iconst (-1), 0, 0, .int (-1)),
  (8, .ireturn, 0, 0, .null),
  (9, .iconst 0, 0, 0, .int 0),
  (10, .istore_n 2, 2, 0, .null),
  (11, .iconst 0, 0, 0, .int 0),
  (12, .istore_n 3, 3, 0, .null),
  (13, .iconst 0, 0, 0, .int 0),
  (14, .istore 4, 4, 0, .null),
  (16, .iconst 0, 0, 0, .int 0),
  (17, .istore 5, 5, 0, .null),
  (19, .iconst 0, 0, 0, .int 0),
  (20, .istore 6, 6, 0, .null),
  (22, .iconst 0, 0, 0, .int 0),
  (23, .istore 7, 7, 0, .null),
  (25, .iload 7, 7, 0, .null),
  (27, .bipush 24, 0, 0, .int 24),
  (29, .if_icmp .ge 123, 152, 0, .null),
  (32, .aload_n 0, 0, 0, .null),
  (33, .getfield 115, 43, 7, .null),
  (36, .iload 7, 7, 0, .null),
  (38, .iaload, 0, 0, .null),
  (39, .ifCond .le 107, 146, 0, .null),
  (42, .iload_n 2, 2, 0, .null),
  (43, .aload_n 0, 0, 0, .null),
  (44, .getfield 106, 40, 7, .null),
  (47, .iload 7, 7, 0, .null),
  (49, .baload, 0, 0, .null),
  (50, .ifCond .eq 7, 57, 0, .null),
  (53, .iconst 1, 0, 0, .int 1),
  (54, .goto 4, 58, 0, .null),
  (57, .iconst 0, 0, 0, .int 0),
  (58, .iadd, 0, 0, .null),
  (59, .istore_n 2, 2, 0, .null),
  (60, .iload_n 3, 3, 0, .null),
  (61, .aload_n 0, 0, 0, .null),
  (62, .getfield 106, 40, 7, .null),
  (65, .iload 7, 7, 0, .null),
  (67, .baload, 0, 0, .null),
  (68, .ifCond .eq 7, 75, 0, .null),
  (71, .iconst 0, 0, 0, .int 0),
  (72, .goto 4, 76, 0, .null),
  (75, .iconst 1, 0, 0, .int 1),
  (76, .iadd, 0, 0, .null),
  (77, .istore_n 3, 3, 0, .null),
  (78, .iload 4, 4, 0, .null),
  (80, .aload_n 0, 0, 0, .null),
  (81, .getfield 106, 40, 7, .null),
  (84, .iload 7, 7, 0, .null),
  (86, .baload, 0, 0, .null),
  (87, .ifCond .eq 7, 94, 0, .null),
  (90, .iconst 0, 0, 0, .int 0),
  (91, .goto 10, 101, 0, .null),
  (94, .aload_n 0, 0, 0, .null),
  (95, .getfield 115, 43, 7, .null),
  (98, .iload 7, 7, 0, .null),
  (100, .iaload, 0, 0, .null),
  (101, .iadd, 0, 0, .null),
  (102, .istore 4, 4, 0, .null),
  (104, .iload 5, 5, 0, .null),
  (106, .aload_n 0, 0, 0, .null),
  (107, .getfield 124, 46, 7, .null),
  (110, .iload 7, 7, 0, .null),
  (112, .iaload, 0, 0, .null),
  (113, .iconst (-1), 0, 0, .int (-1)),
  (114, .if_icmp .eq 7, 121, 0, .null),
  (117, .iconst 1, 0, 0, .int 1),
  (118, .goto 4, 122, 0, .null),
  (121, .iconst 0, 0, 0, .int 0),
  (122, .iadd, 0, 0, .null),
  (123, .istore 5, 5, 0, .null),
  (125, .iload 6, 6, 0, .null),
  (127, .aload_n 0, 0, 0, .null),
  (128, .getfield 127, 47, 7, .null),
  (131, .iload 7, 7, 0, .null),
  (133, .iaload, 0, 0, .null),
  (134, .iconst (-1), 0, 0, .int (-1)),
  (135, .if_icmp .eq 7, 142, 0, .null),
  (138, .iconst 1, 0, 0, .int 1),
  (139, .goto 4, 143, 0, .null),
  (142, .iconst 0, 0, 0, .int 0),
  (143, .iadd, 0, 0, .null),
  (144, .istore 6, 6, 0, .null),
  (146, .iinc 7 1, 7, 0, .int 1),
  (149, .goto (-124), 25, 0, .null),
  (152, .iload_n 1, 1, 0, .null),
  (153, .tableswitch 66 0 6 #[43, 45, 47, 50, 55, 58, 61], 0, 0, .null),
  (196, .iload_n 2, 2, 0, .null),
  (197, .ireturn, 0, 0, .null),
  (198, .iload_n 3, 3, 0, .null),
  (199, .ireturn, 0, 0, .null),
  (200, .iload 4, 4, 0, .null),
  (202, .ireturn, 0, 0, .null),
  (203, .aload_n 0, 0, 0, .null),
  (204, .getfield 267, 56, 7, .null),
  (207, .ireturn, 0, 0, .null),
  (208, .iload 5, 5, 0, .null),
  (210, .ireturn, 0, 0, .null),
  (211, .iload 6, 6, 0, .null),
  (213, .ireturn, 0, 0, .null),
  (214, .aload_n 0, 0, 0, .null),
  (215, .getfield 286, 57, 7, .null),
  (218, .ireturn, 0, 0, .null),
  (219, .iconst (-1), 0, 0, .int (-1)),
  (220, .ireturn, 0, 0, .null),
  (221, .nop, 0, 0, .null)]
theorem o_Mo_shrunk : xOK y_Mo_shrunk xk_Mo r_Mo_shrunk := ⟨xk_Mo_ok, by decide +kernel⟩
end
section
def y_Lw_law : xMD := (x, code, maxLocals, ret, room_1)
def r_Lw_law : List xRw := [(0, .new 7, 0, 0, .null),
  (3, .dup, 0, 0, .null),
  (4, .invokespecial 9, 0, 0, .null),
  (7, .astore_n 1, 1, 0, .null),
  (8, .new 10, 0, 0, .null),
  (11, .dup, 0, 0, .null),
  (12, .invokespecial 12, 0, 0, .null),
  (15, .astore_n 2, 2, 0, .null),
  (16, .iconst 0, 0, 0, .int 0),
  (17, .istore_n 3, 3, 0, .null),
  (18, .iload_n 3, 3, 0, .null),
  (19, .aload_n 0, 0, 0, .null),
  (20, .arraylength, 0, 0, .null),
  (21, .bipush 6, 0, 0, .int 6),
  (23, .isub, 0, 0, .null),
  (24, .if_icmp .gt 815, 839, 0, .null),
  (27, .aload_n 0, 0, 0, .null),
  (28, .iload_n 3, 3, 0, .null),
  (29, .iaload, 0, 0, .null),
  (30, .bipush 31, 0, 0, .int 31),
  (32, .iand, 0, 0, .null),
  (33, .tableswitch 800 0 18 #[91, 170, 253, 296, 359, 382, 431, 494, 507, 530, 553, 576, 599, 612, 645, 678, 711, 754, 777], 0, 0, .null),
  (124, .aload_n 1, 1, 0, .null),
  (125, .aload_n 0, 0, 0, .null),
  (126, .iload_n 3, 3, 0, .null),
  (127, .iconst 1, 0, 0, .int 1),
  (128, .iadd, 0, 0, .null),
  (129, .iaload, 0, 0, .null),
  (130, .aload_n 0, 0, 0, .null),
  (131, .iload_n 3, 3, 0, .null),
  (132, .iconst 2, 0, 0, .int 2),
  (133, .iadd, 0, 0, .null),
  (134, .iaload, 0, 0, .null),
  (135, .aload_n 0, 0, 0, .null),
  (136, .iload_n 3, 3, 0, .null),
  (137, .iconst 3, 0, 0, .int 3),
  (138, .iadd, 0, 0, .null),
  (139, .iaload, 0, 0, .null),
  (140, .aload_n 0, 0, 0, .null),
  (141, .iload_n 3, 3, 0, .null),
  (142, .iconst 4, 0, 0, .int 4),
  (143, .iadd, 0, 0, .null),
  (144, .iaload, 0, 0, .null),
  (145, .aload_n 0, 0, 0, .null),
  (146, .iload_n 3, 3, 0, .null),
  (147, .iconst 5, 0, 0, .int 5),
  (148, .iadd, 0, 0, .null),
  (149, .iaload, 0, 0, .null),
  (150, .ifCond .eq 7, 157, 0, .null),
  (153, .iconst 1, 0, 0, .int 1),
  (154, .goto 4, 158, 0, .null),
  (157, .iconst 0, 0, 0, .int 0),
  (158, .invokevirtual 13, 0, 0, .null),
  (161, .aload_n 2, 2, 0, .null),
  (162, .aload_n 0, 0, 0, .null),
  (163, .iload_n 3, 3, 0, .null),
  (164, .iconst 1, 0, 0, .int 1),
  (165, .iadd, 0, 0, .null),
  (166, .iaload, 0, 0, .null),
  (167, .aload_n 0, 0, 0, .null),
  (168, .iload_n 3, 3, 0, .null),
  (169, .iconst 2, 0, 0, .int 2),
  (170, .iadd, 0, 0, .null),
  (171, .iaload, 0, 0, .null),
  (172, .aload_n 0, 0, 0, .null),
  (173, .iload_n 3, 3, 0, .null),
  (174, .iconst 3, 0, 0, .int 3),
  (175, .iadd, 0, 0, .null),
  (176, .iaload, 0, 0, .null),
  (177, .aload_n 0, 0, 0, .null),
  (178, .iload_n 3, 3, 0, .null),
  (179, .iconst 4, 0, 0, .int 4),
  (180, .iadd, 0, 0, .null),
  (181, .iaload, 0, 0, .null),
  (182, .aload_n 0, 0, 0, .null),
  (183, .iload_n 3, 3, 0, .null),
  (184, .iconst 5, 0, 0, .int 5),
  (185, .iadd, 0, 0, .null),
  (186, .iaload, 0, 0, .null),
  (187, .ifCond .eq 7, 194, 0, .null),
  (190, .iconst 1, 0, 0, .int 1),
  (191, .goto 4, 195, 0, .null),
  (194, .iconst 0, 0, 0, .int 0),
  (195, .invokevirtual 17, 0, 0, .null),
  (198, .if_icmp .eq 635, 833, 0, .null),
  (201, .iconst 0, 0, 0, .int 0),
  (202, .ireturn, 0, 0, .null),
  (203, .aload_n 1, 1, 0, .null),
  (204, .aload_n 0, 0, 0, .null),
  (205, .iload_n 3, 3, 0, .null),
  (206, .iconst 1, 0, 0, .int 1),
  (207, .iadd, 0, 0, .null),
  (208, .iaload, 0, 0, .null),
  (209, .aload_n 0, 0, 0, .null),
  (210, .iload_n 3, 3, 0, .null),
  (211, .iconst 2, 0, 0, .int 2),
  (212, .iadd, 0, 0, .null),
  (213, .iaload, 0, 0, .null),
  (214, .aload_n 0, 0, 0, .null),
  (215, .iload_n 3, 3, 0, .null),
  (216, .iconst 3, 0, 0, .int 3),
  (217, .iadd, 0, 0, .null),
  (218, .iaload, 0, 0, .null),
  (219, .aload_n 0, 0, 0, .null),
  (220, .iload_n 3, 3, 0, .null),
  (221, .iconst 4, 0, 0, .int 4),
  (222, .iadd, 0, 0, .null),
  (223, .iaload, 0, 0, .null),
  (224, .i2l, 0, 0, .null),
  (225, .bipush 32, 0, 0, .int 32),
  (227, .lshl, 0, 0, .null),
  (228, .aload_n 0, 0, 0, .null),
  (229, .iload_n 3, 3, 0, .null),
  (230, .iconst 5, 0, 0, .int 5),
  (231, .iadd, 0, 0, .null),
  (232, .iaload, 0, 0, .null),
  (233, .i2l, 0, 0, .null),
  (234, .ldc2_w 18, 0, 0, .long 4294967295),
  (237, .land, 0, 0, .null),
  (238, .lor, 0, 0, .null),
  (239, .invokevirtual 20, 0, 0, .null),
  (242, .aload_n 2, 2, 0, .null),
  (243, .aload_n 0, 0, 0, .null),
  (244, .iload_n 3, 3, 0, .null),
  (245, .iconst 1, 0, 0, .int 1),
  (246, .iadd, 0, 0, .null),
  (247, .iaload, 0, 0, .null),
  (248, .aload_n 0, 0, 0, .null),
  (249, .iload_n 3, 3, 0, .null),
  (250, .iconst 2, 0, 0, .int 2),
  (251, .iadd, 0, 0, .null),
  (252, .iaload, 0, 0, .null),
  (253, .aload_n 0, 0, 0, .null),
  (254, .iload_n 3, 3, 0, .null),
  (255, .iconst 3, 0, 0, .int 3),
  (256, .iadd, 0, 0, .null),
  (257, .iaload, 0, 0, .null),
  (258, .aload_n 0, 0, 0, .null),
  (259, .iload_n 3, 3, 0, .null),
  (260, .iconst 4, 0, 0, .int 4),
  (261, .iadd, 0, 0, .null),
  (262, .iaload, 0, 0, .null),
  (263, .i2l, 0, 0, .null),
  (264, .bipush 32, 0, 0, .int 32),
  (266, .lshl, 0, 0, .null),
  (267, .aload_n 0, 0, 0, .null),
  (268, .iload_n 3, 3, 0, .null),
  (269, .iconst 5, 0, 0, .int 5),
  (270, .iadd, 0, 0, .null),
  (271, .iaload, 0, 0, .null),
  (272, .i2l, 0, 0, .null),
  (273, .ldc2_w 18, 0, 0, .long 4294967295),
  (276, .land, 0, 0, .null),
  (277, .lor, 0, 0, .null),
  (278, .invokevirtual 24, 0, 0, .null),
  (281, .if_icmp .eq 552, 833, 0, .null),
  (284, .iconst 0, 0, 0, .int 0),
  (285, .ireturn, 0, 0, .null),
  (286, .aload_n 1, 1, 0, .null),
  (287, .aload_n 0, 0, 0, .null),
  (288, .iload_n 3, 3, 0, .null),
  (289, .iconst 1, 0, 0, .int 1),
  (290, .iadd, 0, 0, .null),
  (291, .iaload, 0, 0, .null),
  (292, .aload_n 0, 0, 0, .null),
  (293, .iload_n 3, 3, 0, .null),
  (294, .iconst 2, 0, 0, .int 2),
  (295, .iadd, 0, 0, .null),
  (296, .iaload, 0, 0, .null),
  (297, .aload_n 0, 0, 0, .null),
  (298, .iload_n 3, 3, 0, .null),
  (299, .iconst 3, 0, 0, .int 3),
  (300, .iadd, 0, 0, .null),
  (301, .iaload, 0, 0, .null),
  (302, .invokevirtual 25, 0, 0, .null),
  (305, .aload_n 2, 2, 0, .null),
  (306, .aload_n 0, 0, 0, .null),
  (307, .iload_n 3, 3, 0, .null),
  (308, .iconst 1, 0, 0, .int 1),
  (309, .iadd, 0, 0, .null),
  (310, .iaload, 0, 0, .null),
  (311, .aload_n 0, 0, 0, .null),
  (312, .iload_n 3, 3, 0, .null),
  (313, .iconst 2, 0, 0, .int 2),
  (314, .iadd, 0, 0, .null),
  (315, .iaload, 0, 0, .null),
  (316, .aload_n 0, 0, 0, .null),
  (317, .iload_n 3, 3, 0, .null),
  (318, .iconst 3, 0, 0, .int 3),
  (319, .iadd, 0, 0, .null),
  (320, .iaload, 0, 0, .null),
  (321, .invokevirtual 29, 0, 0, .null),
  (324, .if_icmp .eq 509, 833, 0, .null),
  (327, .iconst 0, 0, 0, .int 0),
  (328, .ireturn, 0, 0, .null),
  (329, .aload_n 1, 1, 0, .null),
  (330, .aload_n 0, 0, 0, .null),
  (331, .iload_n 3, 3, 0, .null),
  (332, .iconst 1, 0, 0, .int 1),
  (333, .iadd, 0, 0, .null),
  (334, .iaload, 0, 0, .null),
  (335, .aload_n 0, 0, 0, .null),
  (336, .iload_n 3, 3, 0, .null),
  (337, .iconst 2, 0, 0, .int 2),
  (338, .iadd, 0, 0, .null),
  (339, .iaload, 0, 0, .null),
  (340, .aload_n 0, 0, 0, .null),
  (341, .iload_n 3, 3, 0, .null),
  (342, .iconst 3, 0, 0, .int 3),
  (343, .iadd, 0, 0, .null),
  (344, .iaload, 0, 0, .null),
  (345, .aload_n 0, 0, 0, .null),
  (346, .iload_n 3, 3, 0, .null),
  (347, .iconst 4, 0, 0, .int 4),
  (348, .iadd, 0, 0, .null),
  (349, .iaload, 0, 0, .null),
  (350, .aload_n 0, 0, 0, .null),
  (351, .iload_n 3, 3, 0, .null),
  (352, .iconst 5, 0, 0, .int 5),
  (353, .iadd, 0, 0, .null),
  (354, .iaload, 0, 0, .null),
  (355, .invokevirtual 30, 0, 0, .null),
  (358, .aload_n 2, 2, 0, .null),
  (359, .aload_n 0, 0, 0, .null),
  (360, .iload_n 3, 3, 0, .null),
  (361, .iconst 1, 0, 0, .int 1),
  (362, .iadd, 0, 0, .null),
  (363, .iaload, 0, 0, .null),
  (364, .aload_n 0, 0, 0, .null),
  (365, .iload_n 3, 3, 0, .null),
  (366, .iconst 2, 0, 0, .int 2),
  (367, .iadd, 0, 0, .null),
  (368, .iaload, 0, 0, .null),
  (369, .aload_n 0, 0, 0, .null),
  (370, .iload_n 3, 3, 0, .null),
  (371, .iconst 3, 0, 0, .int 3),
  (372, .iadd, 0, 0, .null),
  (373, .iaload, 0, 0, .null),
  (374, .aload_n 0, 0, 0, .null),
  (375, .iload_n 3, 3, 0, .null),
  (376, .iconst 4, 0, 0, .int 4),
  (377, .iadd, 0, 0, .null),
  (378, .iaload, 0, 0, .null),
  (379, .aload_n 0, 0, 0, .null),
  (380, .iload_n 3, 3, 0, .null),
  (381, .iconst 5, 0, 0, .int 5),
  (382, .iadd, 0, 0, .null),
  (383, .iaload, 0, 0, .null),
  (384, .invokevirtual 34, 0, 0, .null),
  (387, .if_icmp .eq 446, 833, 0, .null),
  (390, .iconst 0, 0, 0, .int 0),
  (391, .ireturn, 0, 0, .null),
  (392, .aload_n 1, 1, 0, .null),
  (393, .aload_n 0, 0, 0, .null),
  (394, .iload_n 3, 3, 0, .null),
  (395, .iconst 1, 0, 0, .int 1),
  (396, .iadd, 0, 0, .null),
  (397, .iaload, 0, 0, .null),
  (398, .invokevirtual 35, 0, 0, .null),
  (401, .aload_n 2, 2, 0, .null),
  (402, .aload_n 0, 0, 0, .null),
  (403, .iload_n 3, 3, 0, .null),
  (404, .iconst 1, 0, 0, .int 1),
  (405, .iadd, 0, 0, .null),
  (406, .iaload, 0, 0, .null),
  (407, .invokevirtual 39, 0, 0, .null),
  (410, .if_icmp .eq 423, 833, 0, .null),
  (413, .iconst 0, 0, 0, .int 0),
  (414, .ireturn, 0, 0, .null),
  (415, .aload_n 1, 1, 0, .null),
  (416, .aload_n 0, 0, 0, .null),
  (417, .iload_n 3, 3, 0, .null),
  (418, .iconst 1, 0, 0, .int 1),
  (419, .iadd, 0, 0, .null),
  (420, .iaload, 0, 0, .null),
  (421, .aload_n 0, 0, 0, .null),
  (422, .iload_n 3, 3, 0, .null),
  (423, .iconst 2, 0, 0, .int 2),
  (424, .iadd, 0, 0, .null),
  (425, .iaload, 0, 0, .null),
  (426, .ifCond .eq 7, 433, 0, .null),
  (429, .iconst 1, 0, 0, .int 1),
  (430, .goto 4, 434, 0, .null),
  (433, .iconst 0, 0, 0, .int 0),
  (434, .invokevirtual 40, 0, 0, .null),
  (437, .aload_n 2, 2, 0, .null),
  (438, .aload_n 0, 0, 0, .null),
  (439, .iload_n 3, 3, 0, .null),
  (440, .iconst 1, 0, 0, .int 1),
  (441, .iadd, 0, 0, .null),
  (442, .iaload, 0, 0, .null),
  (443, .aload_n 0, 0, 0, .null),
  (444, .iload_n 3, 3, 0, .null),
  (445, .iconst 2, 0, 0, .int 2),
  (446, .iadd, 0, 0, .null),
  (447, .iaload, 0, 0, .null),
  (448, .ifCond .eq 7, 455, 0, .null),
  (451, .iconst 1, 0, 0, .int 1),
  (452, .goto 4, 456, 0, .null),
  (455, .iconst 0, 0, 0, .int 0),
  (456, .invokevirtual 44, 0, 0, .null),
  (459, .if_icmp .eq 374, 833, 0, .null),
  (462, .iconst 0, 0, 0, .int 0),
  (463, .ireturn, 0, 0, .null),
  (464, .aload_n 1, 1, 0, .null),
  (465, .aload_n 0, 0, 0, .null),
  (466, .iload_n 3, 3, 0, .null),
  (467, .iconst 1, 0, 0, .int 1),
  (468, .iadd, 0, 0, .null),
  (469, .iaload, 0, 0, .null),
  (470, .aload_n 0, 0, 0, .null),
  (471, .iload_n 3, 3, 0, .null),
  (472, .iconst 2, 0, 0, .int 2),
  (473, .iadd, 0, 0, .null),
  (474, .iaload, 0, 0, .null),
  (475, .i2l, 0, 0, .null),
  (476, .bipush 32, 0, 0, .int 32),
  (478, .lshl, 0, 0, .null),
  (479, .aload_n 0, 0, 0, .null),
  (480, .iload_n 3, 3, 0, .null),
  (481, .iconst 3, 0, 0, .int 3),
  (482, .iadd, 0, 0, .null),
  (483, .iaload, 0, 0, .null),
  (484, .i2l, 0, 0, .null),
  (485, .ldc2_w 18, 0, 0, .long 4294967295),
  (488, .land, 0, 0, .null),
  (489, .lor, 0, 0, .null),
  (490, .invokevirtual 45, 0, 0, .null),
  (493, .aload_n 2, 2, 0, .null),
  (494, .aload_n 0, 0, 0, .null),
  (495, .iload_n 3, 3, 0, .null),
  (496, .iconst 1, 0, 0, .int 1),
  (497, .iadd, 0, 0, .null),
  (498, .iaload, 0, 0, .null),
  (499, .aload_n 0, 0, 0, .null),
  (500, .iload_n 3, 3, 0, .null),
  (501, .iconst 2, 0, 0, .int 2),
  (502, .iadd, 0, 0, .null),
  (503, .iaload, 0, 0, .null),
  (504, .i2l, 0, 0, .null),
  (505, .bipush 32, 0, 0, .int 32),
  (507, .lshl, 0, 0, .null),
  (508, .aload_n 0, 0, 0, .null),
  (509, .iload_n 3, 3, 0, .null),
  (510, .iconst 3, 0, 0, .int 3),
  (511, .iadd, 0, 0, .null),
  (512, .iaload, 0, 0, .null),
  (513, .i2l, 0, 0, .null),
  (514, .ldc2_w 18, 0, 0, .long 4294967295),
  (517, .land, 0, 0, .null),
  (518, .lor, 0, 0, .null),
  (519, .invokevirtual 49, 0, 0, .null),
  (522, .if_icmp .eq 311, 833, 0, .null),
  (525, .iconst 0, 0, 0, .int 0),
  (526, .ireturn, 0, 0, .null),
  (527, .aload_n 1, 1, 0, .null),
  (528, .invokevirtual 50, 0, 0, .null),
  (531, .aload_n 2, 2, 0, .null),
  (532, .invokevirtual 53, 0, 0, .null),
  (535, .if_icmp .eq 298, 833, 0, .null),
  (538, .iconst 0, 0, 0, .int 0),
  (539, .ireturn, 0, 0, .null),
  (540, .aload_n 1, 1, 0, .null),
  (541, .aload_n 0, 0, 0, .null),
  (542, .iload_n 3, 3, 0, .null),
  (543, .iconst 1, 0, 0, .int 1),
  (544, .iadd, 0, 0, .null),
  (545, .iaload, 0, 0, .null),
  (546, .invokevirtual 54, 0, 0, .null),
  (549, .aload_n 2, 2, 0, .null),
  (550, .aload_n 0, 0, 0, .null),
  (551, .iload_n 3, 3, 0, .null),
  (552, .iconst 1, 0, 0, .int 1),
  (553, .iadd, 0, 0, .null),
  (554, .iaload, 0, 0, .null),
  (555, .invokevirtual 57, 0, 0, .null),
  (558, .if_icmp .eq 275, 833, 0, .null),
  (561, .iconst 0, 0, 0, .int 0),
  (562, .ireturn, 0, 0, .null),
  (563, .aload_n 1, 1, 0, .null),
  (564, .aload_n 0, 0, 0, .null),
  (565, .iload_n 3, 3, 0, .null),
  (566, .iconst 1, 0, 0, .int 1),
  (567, .iadd, 0, 0, .null),
  (568, .iaload, 0, 0, .null),
  (569, .invokevirtual 58, 0, 0, .null),
  (572, .aload_n 2, 2, 0, .null),
  (573, .aload_n 0, 0, 0, .null),
  (574, .iload_n 3, 3, 0, .null),
  (575, .iconst 1, 0, 0, .int 1),
  (576, .iadd, 0, 0, .null),
  (577, .iaload, 0, 0, .null),
  (578, .invokevirtual 61, 0, 0, .null),
  (581, .if_icmp .eq 252, 833, 0, .null),
  (584, .iconst 0, 0, 0, .int 0),
  (585, .ireturn, 0, 0, .null),
  (586, .aload_n 1, 1, 0, .null),
  (587, .aload_n 0, 0, 0, .null),
  (588, .iload_n 3, 3, 0, .null),
  (589, .iconst 1, 0, 0, .int 1),
  (590, .iadd, 0, 0, .null),
  (591, .iaload, 0, 0, .null),
  (592, .invokevirtual 62, 0, 0, .null),
  (595, .aload_n 2, 2, 0, .null),
  (596, .aload_n 0, 0, 0, .null),
  (597, .iload_n 3, 3, 0, .null),
  (598, .iconst 1, 0, 0, .int 1),
  (599, .iadd, 0, 0, .null),
  (600, .iaload, 0, 0, .null),
  (601, .invokevirtual 65, 0, 0, .null),
  (604, .if_icmp .eq 229, 833, 0, .null),
  (607, .iconst 0, 0, 0, .int 0),
  (608, .ireturn, 0, 0, .null),
  (609, .aload_n 1, 1, 0, .null),
  (610, .aload_n 0, 0, 0, .null),
  (611, .iload_n 3, 3, 0, .null),
  (612, .iconst 1, 0, 0, .int 1),
  (613, .iadd, 0, 0, .null),
  (614, .iaload, 0, 0, .null),
  (615, .invokevirtual 66, 0, 0, .null),
  (618, .aload_n 2, 2, 0, .null),
  (619, .aload_n 0, 0, 0, .null),
  (620, .iload_n 3, 3, 0, .null),
  (621, .iconst 1, 0, 0, .int 1),
  (622, .iadd, 0, 0, .null),
  (623, .iaload, 0, 0, .null),
  (624, .invokevirtual 69, 0, 0, .null),
  (627, .if_icmp .eq 206, 833, 0, .null),
  (630, .iconst 0, 0, 0, .int 0),
  (631, .ireturn, 0, 0, .null),
  (632, .aload_n 1, 1, 0, .null),
  (633, .invokevirtual 70, 0, 0, .null),
  (636, .aload_n 2, 2, 0, .null),
  (637, .invokevirtual 73, 0, 0, .null),
  (640, .if_icmp .eq 193, 833, 0, .null),
  (643, .iconst 0, 0, 0, .int 0),
  (644, .ireturn, 0, 0, .null),
  (645, .aload_n 1, 1, 0, .null),
  (646, .aload_n 0, 0, 0, .null),
  (647, .iload_n 3, 3, 0, .null),
  (648, .iconst 1, 0, 0, .int 1),
  (649, .iadd, 0, 0, .null),
  (650, .iaload, 0, 0, .null),
  (651, .aload_n 0, 0, 0, .null),
  (652, .iload_n 3, 3, 0, .null),
  (653, .iconst 2, 0, 0, .int 2),
  (654, .iadd, 0, 0, .null),
  (655, .iaload, 0, 0, .null),
  (656, .invokevirtual 74, 0, 0, .null),
  (659, .aload_n 2, 2, 0, .null),
  (660, .aload_n 0, 0, 0, .null),
  (661, .iload_n 3, 3, 0, .null),
  (662, .iconst 1, 0, 0, .int 1),
  (663, .iadd, 0, 0, .null),
  (664, .iaload, 0, 0, .null),
  (665, .aload_n 0, 0, 0, .null),
  (666, .iload_n 3, 3, 0, .null),
  (667, .iconst 2, 0, 0, .int 2),
  (668, .iadd, 0, 0, .null),
  (669, .iaload, 0, 0, .null),
  (670, .invokevirtual 78, 0, 0, .null),
  (673, .if_icmp .eq 160, 833, 0, .null),
  (676, .iconst 0, 0, 0, .int 0),
  (677, .ireturn, 0, 0, .null),
  (678, .aload_n 1, 1, 0, .null),
  (679, .aload_n 0, 0, 0, .null),
  (680, .iload_n 3, 3, 0, .null),
  (681, .iconst 1, 0, 0, .int 1),
  (682, .iadd, 0, 0, .null),
  (683, .iaload, 0, 0, .null),
  (684, .aload_n 0, 0, 0, .null),
  (685, .iload_n 3, 3, 0, .null),
  (686, .iconst 2, 0, 0, .int 2),
  (687, .iadd, 0, 0, .null),
  (688, .iaload, 0, 0, .null),
  (689, .invokevirtual 79, 0, 0, .null),
  (692, .aload_n 2, 2, 0, .null),
  (693, .aload_n 0, 0, 0, .null),
  (694, .iload_n 3, 3, 0, .null),
  (695, .iconst 1, 0, 0, .int 1),
  (696, .iadd, 0, 0, .null),
  (697, .iaload, 0, 0, .null),
  (698, .aload_n 0, 0, 0, .null),
  (699, .iload_n 3, 3, 0, .null),
  (700, .iconst 2, 0, 0, .int 2),
  (701, .iadd, 0, 0, .null),
  (702, .iaload, 0, 0, .null),
  (703, .invokevirtual 82, 0, 0, .null),
  (706, .if_icmp .eq 127, 833, 0, .null),
  (709, .iconst 0, 0, 0, .int 0),
  (710, .ireturn, 0, 0, .null),
  (711, .aload_n 1, 1, 0, .null),
  (712, .aload_n 0, 0, 0, .null),
  (713, .iload_n 3, 3, 0, .null),
  (714, .iconst 1, 0, 0, .int 1),
  (715, .iadd, 0, 0, .null),
  (716, .iaload, 0, 0, .null),
  (717, .aload_n 0, 0, 0, .null),
  (718, .iload_n 3, 3, 0, .null),
  (719, .iconst 2, 0, 0, .int 2),
  (720, .iadd, 0, 0, .null),
  (721, .iaload, 0, 0, .null),
  (722, .invokevirtual 83, 0, 0, .null),
  (725, .aload_n 2, 2, 0, .null),
  (726, .aload_n 0, 0, 0, .null),
  (727, .iload_n 3, 3, 0, .null),
  (728, .iconst 1, 0, 0, .int 1),
  (729, .iadd, 0, 0, .null),
  (730, .iaload, 0, 0, .null),
  (731, .aload_n 0, 0, 0, .null),
  (732, .iload_n 3, 3, 0, .null),
  (733, .iconst 2, 0, 0, .int 2),
  (734, .iadd, 0, 0, .null),
  (735, .iaload, 0, 0, .null),
  (736, .invokevirtual 86, 0, 0, .null),
  (739, .if_icmp .eq 94, 833, 0, .null),
  (742, .iconst 0, 0, 0, .int 0),
  (743, .ireturn, 0, 0, .null),
  (744, .aload_n 1, 1, 0, .null),
  (745, .aload_n 0, 0, 0, .null),
  (746, .iload_n 3, 3, 0, .null),
  (747, .iconst 1, 0, 0, .int 1),
  (748, .iadd, 0, 0, .null),
  (749, .iaload, 0, 0, .null),
  (750, .aload_n 0, 0, 0, .null),
  (751, .iload_n 3, 3, 0, .null),
  (752, .iconst 2, 0, 0, .int 2),
  (753, .iadd, 0, 0, .null),
  (754, .iaload, 0, 0, .null),
  (755, .aload_n 0, 0, 0, .null),
  (756, .iload_n 3, 3, 0, .null),
  (757, .iconst 3, 0, 0, .int 3),
  (758, .iadd, 0, 0, .null),
  (759, .iaload, 0, 0, .null),
  (760, .invokevirtual 87, 0, 0, .null),
  (763, .aload_n 2, 2, 0, .null),
  (764, .aload_n 0, 0, 0, .null),
  (765, .iload_n 3, 3, 0, .null),
  (766, .iconst 1, 0, 0, .int 1),
  (767, .iadd, 0, 0, .null),
  (768, .iaload, 0, 0, .null),
  (769, .aload_n 0, 0, 0, .null),
  (770, .iload_n 3, 3, 0, .null),
  (771, .iconst 2, 0, 0, .int 2),
  (772, .iadd, 0, 0, .null),
  (773, .iaload, 0, 0, .null),
  (774, .aload_n 0, 0, 0, .null),
  (775, .iload_n 3, 3, 0, .null),
  (776, .iconst 3, 0, 0, .int 3),
  (777, .iadd, 0, 0, .null),
  (778, .iaload, 0, 0, .null),
  (779, .invokevirtual 91, 0, 0, .null),
  (782, .if_icmp .eq 51, 833, 0, .null),
  (785, .iconst 0, 0, 0, .int 0),
  (786, .ireturn, 0, 0, .null),
  (787, .aload_n 1, 1, 0, .null),
  (788, .aload_n 0, 0, 0, .null),
  (789, .iload_n 3, 3, 0, .null),
  (790, .iconst 1, 0, 0, .int 1),
  (791, .iadd, 0, 0, .null),
  (792, .iaload, 0, 0, .null),
  (793, .invokevirtual 92, 0, 0, .null),
  (796, .aload_n 2, 2, 0, .null),
  (797, .aload_n 0, 0, 0, .null),
  (798, .iload_n 3, 3, 0, .null),
  (799, .iconst 1, 0, 0, .int 1),
  (800, .iadd, 0, 0, .null),
  (801, .iaload, 0, 0, .null),
  (802, .invokevirtual 95, 0, 0, .null),
  (805, .if_icmp .eq 28, 833, 0, .null),
  (808, .iconst 0, 0, 0, .int 0),
  (809, .ireturn, 0, 0, .null),
  (810, .aload_n 1, 1, 0, .null),
  (811, .aload_n 0, 0, 0, .null),
  (812, .iload_n 3, 3, 0, .null),
  (813, .iconst 1, 0, 0, .int 1),
  (814, .iadd, 0, 0, .null),
  (815, .iaload, 0, 0, .null),
  (816, .invokevirtual 96, 0, 0, .null),
  (819, .aload_n 2, 2, 0, .null),
  (820, .aload_n 0, 0, 0, .null),
  (821, .iload_n 3, 3, 0, .null),
  (822, .iconst 1, 0, 0, .int 1),
  (823, .iadd, 0, 0, .null),
  (824, .iaload, 0, 0, .null),
  (825, .invokevirtual 99, 0, 0, .null),
  (828, .if_icmp .eq 5, 833, 0, .null),
  (831, .iconst 0, 0, 0, .int 0),
  (832, .ireturn, 0, 0, .null),
  (833, .iinc 3 6, 3, 0, .int 6),
  (836, .goto (-818), 18, 0, .null),
  (839, .iconst 1, 0, 0, .int 1),
  (840, .ireturn, 0, 0, .null),
  (841, .nop, 0, 0, .null)]
def r_Lw_law_0 : List xRw := [(0, .new 7, 0, 0, .null),
  (3, .dup, 0, 0, .null),
  (4, .invokespecial 9, 0, 0, .null),
  (7, .astore_n 1, 1, 0, .null),
  (8, .new 10, 0, 0, .null),
  (11, .dup, 0, 0, .null),
  (12, .invokespecial 12, 0, 0, .null),
  (15, .astore_n 2, 2, 0, .null),
  (16, .iconst 0, 0, 0, .int 0),
  (17, .istore_n 3, 3, 0, .null),
  (18, .iload_n 3, 3, 0, .null),
  (19, .aload_n 0, 0, 0, .null),
  (20, .arraylength, 0, 0, .null),
  (21, .bipush 6, 0, 0, .int 6),
  (23, .isub, 0, 0, .null),
  (24, .if_icmp .gt 815, 839, 0, .null),
  (27, .aload_n 0, 0, 0, .null),
  (28, .iload_n 3, 3, 0, .null),
  (29, .iaload, 0, 0, .null),
  (30, .bipush 31, 0, 0, .int 31),
  (32, .iand, 0, 0, .null),
  (33, .tableswitch 800 0 18 #[91, 170, 253, 296, 359, 382, 431, 494, 507, 530, 553, 576, 599, 612, 645, 678, 711, 754, 777], 0, 0, .null),
  (124, .aload_n 1, 1, 0, .null),
  (125, .aload_n 0, 0, 0, .null),
  (126, .iload_n 3, 3, 0, .null),
  (127, .iconst 1, 0, 0, .int 1),
  (128, .iadd, 0, 0, .null),
  (129, .iaload, 0, 0, .null),
  (130, .aload_n 0, 0, 0, .null),
  (131, .iload_n 3, 3, 0, .null),
  (132, .iconst 2, 0, 0, .int 2),
  (133, .iadd, 0, 0, .null),
  (134, .iaload, 0, 0, .null),
  (135, .aload_n 0, 0, 0, .null),
  (136, .iload_n 3, 3, 0, .null),
  (137, .iconst 3, 0, 0, .int 3),
  (138, .iadd, 0, 0, .null),
  (139, .iaload, 0, 0, .null),
  (140, .aload_n 0, 0, 0, .null),
  (141, .iload_n 3, 3, 0, .null),
  (142, .iconst 4, 0, 0, .int 4),
  (143, .iadd, 0, 0, .null),
  (144, .iaload, 0, 0, .null),
  (145, .aload_n 0, 0, 0, .null),
  (146, .iload_n 3, 3, 0, .null),
  (147, .iconst 5, 0, 0, .int 5),
  (148, .iadd, 0, 0, .null),
  (149, .iaload, 0, 0, .null),
  (150, .ifCond .eq 7, 157, 0, .null),
  (153, .iconst 1, 0, 0, .int 1),
  (154, .goto 4, 158, 0, .null),
  (157, .iconst 0, 0, 0, .int 0),
  (158, .invokevirtual 13, 0, 0, .null),
  (161, .aload_n 2, 2, 0, .null),
  (162, .aload_n 0, 0, 0, .null),
  (163, .iload_n 3, 3, 0, .null),
  (164, .iconst 1, 0, 0, .int 1),
  (165, .iadd, 0, 0, .null),
  (166, .iaload, 0, 0, .null),
  (167, .aload_n 0, 0, 0, .null)]
theorem o_Lw_law_0 : xchk (yB y_Lw_law) xk_Lw (r_Lw_law_0 ++ [(168, .iload_n 3, 3, 0, .null)]) = true := by decide +kernel
def r_Lw_law_1 : List xRw := [(168, .iload_n 3, 3, 0, .null),
  (169, .iconst 2, 0, 0, .int 2),
  (170, .iadd, 0, 0, .null),
  (171, .iaload, 0, 0, .null),
  (172, .aload_n 0, 0, 0, .null),
  (173, .iload_n 3, 3, 0, .null),
  (174, .iconst 3, 0, 0, .int 3),
  (175, .iadd, 0, 0, .null),
  (176, .iaload, 0, 0, .null),
  (177, .aload_n 0, 0, 0, .null),
  (178, .iload_n 3, 3, 0, .null),
  (179, .iconst 4, 0, 0, .int 4),
  (180, .iadd, 0, 0, .null),
  (181, .iaload, 0, 0, .null),
  (182, .aload_n 0, 0, 0, .null),
  (183, .iload_n 3, 3, 0, .null),
  (184, .iconst 5, 0, 0, .int 5),
  (185, .iadd, 0, 0, .null),
  (186, .iaload, 0, 0, .null),
  (187, .ifCond .eq 7, 194, 0, .null),
  (190, .iconst 1, 0, 0, .int 1),
  (191, .goto 4, 195, 0, .null),
  (194, .iconst 0, 0, 0, .int 0),
  (195, .invokevirtual 17, 0, 0, .null),
  (198, .if_icmp .eq 635, 833, 0, .null),
  (201, .iconst 0, 0, 0, .int 0),
  (202, .ireturn, 0, 0, .null),
  (203, .aload_n 1, 1, 0, .null),
  (204, .aload_n 0, 0, 0, .null),
  (205, .iload_n 3, 3, 0, .null),
  (206, .iconst 1, 0, 0, .int 1),
  (207, .iadd, 0, 0, .null),
  (208, .iaload, 0, 0, .null),
  (209, .aload_n 0, 0, 0, .null),
  (210, .iload_n 3, 3, 0, .null),
  (211, .iconst 2, 0, 0, .int 2),
  (212, .iadd, 0, 0, .null),
  (213, .iaload, 0, 0, .null),
  (214, .aload_n 0, 0, 0, .null),
  (215, .iload_n 3, 3, 0, .null),
  (216, .iconst 3, 0, 0, .int 3),
  (217, .iadd, 0, 0, .null),
  (218, .iaload, 0, 0, .null),
  (219, .aload_n 0, 0, 0, .null),
  (220, .iload_n 3, 3, 0, .null),
  (221, .iconst 4, 0, 0, .int 4),
  (222, .iadd, 0, 0, .null),
  (223, .iaload, 0, 0, .null),
  (224, .i2l, 0, 0, .null),
  (225, .bipush 32, 0, 0, .int 32),
  (227, .lshl, 0, 0, .null),
  (228, .aload_n 0, 0, 0, .null),
  (229, .iload_n 3, 3, 0, .null),
  (230, .iconst 5, 0, 0, .int 5),
  (231, .iadd, 0, 0, .null),
  (232, .iaload, 0, 0, .null),
  (233, .i2l, 0, 0, .null),
  (234, .ldc2_w 18, 0, 0, .long 4294967295),
  (237, .land, 0, 0, .null),
  (238, .lor, 0, 0, .null)]
theorem o_Lw_law_1 : xchk (yB y_Lw_law) xk_Lw (r_Lw_law_1 ++ [(239, .invokevirtual 20, 0, 0, .null)]) = true := by decide +kernel
def r_Lw_law_2 : List xRw := [(239, .invokevirtual 20, 0, 0, .null),
  (242, .aload_n 2, 2, 0, .null),
  (243, .aload_n 0, 0, 0, .null),
  (244, .iload_n 3, 3, 0, .null),
  (245, .iconst 1, 0, 0, .int 1),
  (246, .iadd, 0, 0, .null),
  (247, .iaload, 0, 0, .null),
  (248, .aload_n 0, 0, 0, .null),
  (249, .iload_n 3, 3, 0, .null),
  (250, .iconst 2, 0, 0, .int 2),
  (251, .iadd, 0, 0, .null),
  (252, .iaload, 0, 0, .null),
  (253, .aload_n 0, 0, 0, .null),
  (254, .iload_n 3, 3, 0, .null),
  (255, .iconst 3, 0, 0, .int 3),
  (256, .iadd, 0, 0, .null),
  (257, .iaload, 0, 0, .null),
  (258, .aload_n 0, 0, 0, .null),
  (259, .iload_n 3, 3, 0, .null),
  (260, .iconst 4, 0, 0, .int 4),
  (261, .iadd, 0, 0, .null),
  (262, .iaload, 0, 0, .null),
  (263, .i2l, 0, 0, .null),
  (264, .bipush 32, 0, 0, .int 32),
  (266, .lshl, 0, 0, .null),
  (267, .aload_n 0, 0, 0, .null),
  (268, .iload_n 3, 3, 0, .null),
  (269, .iconst 5, 0, 0, .int 5),
  (270, .iadd, 0, 0, .null),
  (271, .iaload, 0, 0, .null),
  (272, .i2l, 0, 0, .null),
  (273, .ldc2_w 18, 0, 0, .long 4294967295),
  (276, .land, 0, 0, .null),
  (277, .lor, 0, 0, .null),
  (278, .invokevirtual 24, 0, 0, .null),
  (281, .if_icmp .eq 552, 833, 0, .null),
  (284, .iconst 0, 0, 0, .int 0),
  (285, .ireturn, 0, 0, .null),
  (286, .aload_n 1, 1, 0, .null),
  (287, .aload_n 0, 0, 0, .null),
  (288, .iload_n 3, 3, 0, .null),
  (289, .iconst 1, 0, 0, .int 1),
  (290, .iadd, 0, 0, .null),
  (291, .iaload, 0, 0, .null),
  (292, .aload_n 0, 0, 0, .null),
  (293, .iload_n 3, 3, 0, .null),
  (294, .iconst 2, 0, 0, .int 2),
  (295, .iadd, 0, 0, .null),
  (296, .iaload, 0, 0, .null),
  (297, .aload_n 0, 0, 0, .null),
  (298, .iload_n 3, 3, 0, .null),
  (299, .iconst 3, 0, 0, .int 3),
  (300, .iadd, 0, 0, .null),
  (301, .iaload, 0, 0, .null),
  (302, .invokevirtual 25, 0, 0, .null),
  (305, .aload_n 2, 2, 0, .null),
  (306, .aload_n 0, 0, 0, .null),
  (307, .iload_n 3, 3, 0, .null),
  (308, .iconst 1, 0, 0, .int 1),
  (309, .iadd, 0, 0, .null)]
theorem o_Lw_law_2 : xchk (yB y_Lw_law) xk_Lw (r_Lw_law_2 ++ [(310, .iaload, 0, 0, .null)]) = true := by decide +kernel
def r_Lw_law_3 : List xRw := [(310, .iaload, 0, 0, .null),
  (311, .aload_n 0, 0, 0, .null),
  (312, .iload_n 3, 3, 0, .null),
  (313, .iconst 2, 0, 0, .int 2),
  (314, .iadd, 0, 0, .null),
  (315, .iaload, 0, 0, .null),
  (316, .aload_n 0, 0, 0, .null),
  (317, .iload_n 3, 3, 0, .null),
  (318, .iconst 3, 0, 0, .int 3),
  (319, .iadd, 0, 0, .null),
  (320, .iaload, 0, 0, .null),
  (321, .invokevirtual 29, 0, 0, .null),
  (324, .if_icmp .eq 509, 833, 0, .null),
  (327, .iconst 0, 0, 0, .int 0),
  (328, .ireturn, 0, 0, .null),
  (329, .aload_n 1, 1, 0, .null),
  (330, .aload_n 0, 0, 0, .null),
  (331, .iload_n 3, 3, 0, .null),
  (332, .iconst 1, 0, 0, .int 1),
  (333, .iadd, 0, 0, .null),
  (334, .iaload, 0, 0, .null),
  (335, .aload_n 0, 0, 0, .null),
  (336, .iload_n 3, 3, 0, .null),
  (337, .iconst 2, 0, 0, .int 2),
  (338, .iadd, 0, 0, .null),
  (339, .iaload, 0, 0, .null),
  (340, .aload_n 0, 0, 0, .null),
  (341, .iload_n 3, 3, 0, .null),
  (342, .iconst 3, 0, 0, .int 3),
  (343, .iadd, 0, 0, .null),
  (344, .iaload, 0, 0, .null),
  (345, .aload_n 0, 0, 0, .null),
  (346, .iload_n 3, 3, 0, .null),
  (347, .iconst 4, 0, 0, .int 4),
  (348, .iadd, 0, 0, .null),
  (349, .iaload, 0, 0, .null),
  (350, .aload_n 0, 0, 0, .null),
  (351, .iload_n 3, 3, 0, .null),
  (352, .iconst 5, 0, 0, .int 5),
  (353, .iadd, 0, 0, .null),
  (354, .iaload, 0, 0, .null),
  (355, .invokevirtual 30, 0, 0, .null),
  (358, .aload_n 2, 2, 0, .null),
  (359, .aload_n 0, 0, 0, .null),
  (360, .iload_n 3, 3, 0, .null),
  (361, .iconst 1, 0, 0, .int 1),
  (362, .iadd, 0, 0, .null),
  (363, .iaload, 0, 0, .null),
  (364, .aload_n 0, 0, 0, .null),
  (365, .iload_n 3, 3, 0, .null),
  (366, .iconst 2, 0, 0, .int 2),
  (367, .iadd, 0, 0, .null),
  (368, .iaload, 0, 0, .null),
  (369, .aload_n 0, 0, 0, .null),
  (370, .iload_n 3, 3, 0, .null),
  (371, .iconst 3, 0, 0, .int 3),
  (372, .iadd, 0, 0, .null),
  (373, .iaload, 0, 0, .null),
  (374, .aload_n 0, 0, 0, .null),
  (375, .iload_n 3, 3, 0, .null)]
theorem o_Lw_law_3 : xchk (yB y_Lw_law) xk_Lw (r_Lw_law_3 ++ [(376, .iconst 4, 0, 0, .int 4)]) = true := by decide +kernel
def r_Lw_law_4 : List xRw := [(376, .iconst 4, 0, 0, .int 4),
  (377, .iadd, 0, 0, .null),
  (378, .iaload, 0, 0, .null),
  (379, .aload_n 0, 0, 0, .null),
  (380, .iload_n 3, 3, 0, .null),
  (381, .iconst 5, 0, 0, .int 5),
  (382, .iadd, 0, 0, .null),
  (383, .iaload, 0, 0, .null),
  (384, .invokevirtual 34, 0, 0, .null),
  (387, .if_icmp .eq 446, 833, 0, .null),
  (390, .iconst 0, 0, 0, .int 0),
  (391, .ireturn, 0, 0, .null),
  (392, .aload_n 1, 1, 0, .null),
  (393, .aload_n 0, 0, 0, .null),
  (394, .iload_n 3, 3, 0, .null),
  (395, .iconst 1, 0, 0, .int 1),
  (396, .iadd, 0, 0, .null),
  (397, .iaload, 0, 0, .null),
  (398, .invokevirtual 35, 0, 0, .null),
  (401, .aload_n 2, 2, 0, .null),
  (402, .aload_n 0, 0, 0, .null),
  (403, .iload_n 3, 3, 0, .null),
  (404, .iconst 1, 0, 0, .int 1),
  (405, .iadd, 0, 0, .null),
  (406, .iaload, 0, 0, .null),
  (407, .invokevirtual 39, 0, 0, .null),
  (410, .if_icmp .eq 423, 833, 0, .null),
  (413, .iconst 0, 0, 0, .int 0),
  (414, .ireturn, 0, 0, .null),
  (415, .aload_n 1, 1, 0, .null),
  (416, .aload_n 0, 0, 0, .null),
  (417, .iload_n 3, 3, 0, .null),
  (418, .iconst 1, 0, 0, .int 1),
  (419, .iadd, 0, 0, .null),
  (420, .iaload, 0, 0, .null),
  (421, .aload_n 0, 0, 0, .null),
  (422, .iload_n 3, 3, 0, .null),
  (423, .iconst 2, 0, 0, .int 2),
  (424, .iadd, 0, 0, .null),
  (425, .iaload, 0, 0, .null),
  (426, .ifCond .eq 7, 433, 0, .null),
  (429, .iconst 1, 0, 0, .int 1),
  (430, .goto 4, 434, 0, .null),
  (433, .iconst 0, 0, 0, .int 0),
  (434, .invokevirtual 40, 0, 0, .null),
  (437, .aload_n 2, 2, 0, .null),
  (438, .aload_n 0, 0, 0, .null),
  (439, .iload_n 3, 3, 0, .null),
  (440, .iconst 1, 0, 0, .int 1),
  (441, .iadd, 0, 0, .null),
  (442, .iaload, 0, 0, .null),
  (443, .aload_n 0, 0, 0, .null),
  (444, .iload_n 3, 3, 0, .null),
  (445, .iconst 2, 0, 0, .int 2),
  (446, .iadd, 0, 0, .null),
  (447, .iaload, 0, 0, .null),
  (448, .ifCond .eq 7, 455, 0, .null),
  (451, .iconst 1, 0, 0, .int 1),
  (452, .goto 4, 456, 0, .null),
  (455, .iconst 0, 0, 0, .int 0)]
theorem o_Lw_law_4 : xchk (yB y_Lw_law) xk_Lw (r_Lw_law_4 ++ [(456, .invokevirtual 44, 0, 0, .null)]) = true := by decide +kernel
def r_Lw_law_5 : List xRw := [(456, .invokevirtual 44, 0, 0, .null),
  (459, .if_icmp .eq 374, 833, 0, .null),
  (462, .iconst 0, 0, 0, .int 0),
  (463, .ireturn, 0, 0, .null),
  (464, .aload_n 1, 1, 0, .null),
  (465, .aload_n 0, 0, 0, .null),
  (466, .iload_n 3, 3, 0, .null),
  (467, .iconst 1, 0, 0, .int 1),
  (468, .iadd, 0, 0, .null),
  (469, .iaload, 0, 0, .null),
  (470, .aload_n 0, 0, 0, .null),
  (471, .iload_n 3, 3, 0, .null),
  (472, .iconst 2, 0, 0, .int 2),
  (473, .iadd, 0, 0, .null),
  (474, .iaload, 0, 0, .null),
  (475, .i2l, 0, 0, .null),
  (476, .bipush 32, 0, 0, .int 32),
  (478, .lshl, 0, 0, .null),
  (479, .aload_n 0, 0, 0, .null),
  (480, .iload_n 3, 3, 0, .null),
  (481, .iconst 3, 0, 0, .int 3),
  (482, .iadd, 0, 0, .null),
  (483, .iaload, 0, 0, .null),
  (484, .i2l, 0, 0, .null),
  (485, .ldc2_w 18, 0, 0, .long 4294967295),
  (488, .land, 0, 0, .null),
  (489, .lor, 0, 0, .null),
  (490, .invokevirtual 45, 0, 0, .null),
  (493, .aload_n 2, 2, 0, .null),
  (494, .aload_n 0, 0, 0, .null),
  (495, .iload_n 3, 3, 0, .null),
  (496, .iconst 1, 0, 0, .int 1),
  (497, .iadd, 0, 0, .null),
  (498, .iaload, 0, 0, .null),
  (499, .aload_n 0, 0, 0, .null),
  (500, .iload_n 3, 3, 0, .null),
  (501, .iconst 2, 0, 0, .int 2),
  (502, .iadd, 0, 0, .null),
  (503, .iaload, 0, 0, .null),
  (504, .i2l, 0, 0, .null),
  (505, .bipush 32, 0, 0, .int 32),
  (507, .lshl, 0, 0, .null),
  (508, .aload_n 0, 0, 0, .null),
  (509, .iload_n 3, 3, 0, .null),
  (510, .iconst 3, 0, 0, .int 3),
  (511, .iadd, 0, 0, .null),
  (512, .iaload, 0, 0, .null),
  (513, .i2l, 0, 0, .null),
  (514, .ldc2_w 18, 0, 0, .long 4294967295),
  (517, .land, 0, 0, .null),
  (518, .lor, 0, 0, .null),
  (519, .invokevirtual 49, 0, 0, .null),
  (522, .if_icmp .eq 311, 833, 0, .null),
  (525, .iconst 0, 0, 0, .int 0),
  (526, .ireturn, 0, 0, .null),
  (527, .aload_n 1, 1, 0, .null),
  (528, .invokevirtual 50, 0, 0, .null),
  (531, .aload_n 2, 2, 0, .null),
  (532, .invokevirtual 53, 0, 0, .null),
  (535, .if_icmp .eq 298, 833, 0, .null)]
theorem o_Lw_law_5 : xchk (yB y_Lw_law) xk_Lw (r_Lw_law_5 ++ [(538, .iconst 0, 0, 0, .int 0)]) = true := by decide +kernel
def r_Lw_law_6 : List xRw := [(538, .iconst 0, 0, 0, .int 0),
  (539, .ireturn, 0, 0, .null),
  (540, .aload_n 1, 1, 0, .null),
  (541, .aload_n 0, 0, 0, .null),
  (542, .iload_n 3, 3, 0, .null),
  (543, .iconst 1, 0, 0, .int 1),
  (544, .iadd, 0, 0, .null),
  (545, .iaload, 0, 0, .null),
  (546, .invokevirtual 54, 0, 0, .null),
  (549, .aload_n 2, 2, 0, .null),
  (550, .aload_n 0, 0, 0, .null),
  (551, .iload_n 3, 3, 0, .null),
  (552, .iconst 1, 0, 0, .int 1),
  (553, .iadd, 0, 0, .null),
  (554, .iaload, 0, 0, .null),
  (555, .invokevirtual 57, 0, 0, .null),
  (558, .if_icmp .eq 275, 833, 0, .null),
  (561, .iconst 0, 0, 0, .int 0),
  (562, .ireturn, 0, 0, .null),
  (563, .aload_n 1, 1, 0, .null),
  (564, .aload_n 0, 0, 0, .null),
  (565, .iload_n 3, 3, 0, .null),
  (566, .iconst 1, 0, 0, .int 1),
  (567, .iadd, 0, 0, .null),
  (568, .iaload, 0, 0, .null),
  (569, .invokevirtual 58, 0, 0, .null),
  (572, .aload_n 2, 2, 0, .null),
  (573, .aload_n 0, 0, 0, .null),
  (574, .iload_n 3, 3, 0, .null),
  (575, .iconst 1, 0, 0, .int 1),
  (576, .iadd, 0, 0, .null),
  (577, .iaload, 0, 0, .null),
  (578, .invokevirtual 61, 0, 0, .null),
  (581, .if_icmp .eq 252, 833, 0, .null),
  (584, .iconst 0, 0, 0, .int 0),
  (585, .ireturn, 0, 0, .null),
  (586, .aload_n 1, 1, 0, .null),
  (587, .aload_n 0, 0, 0, .null),
  (588, .iload_n 3, 3, 0, .null),
  (589, .iconst 1, 0, 0, .int 1),
  (590, .iadd, 0, 0, .null),
  (591, .iaload, 0, 0, .null),
  (592, .invokevirtual 62, 0, 0, .null),
  (595, .aload_n 2, 2, 0, .null),
  (596, .aload_n 0, 0, 0, .null),
  (597, .iload_n 3, 3, 0, .null),
  (598, .iconst 1, 0, 0, .int 1),
  (599, .iadd, 0, 0, .null),
  (600, .iaload, 0, 0, .null),
  (601, .invokevirtual 65, 0, 0, .null),
  (604, .if_icmp .eq 229, 833, 0, .null),
  (607, .iconst 0, 0, 0, .int 0),
  (608, .ireturn, 0, 0, .null),
  (609, .aload_n 1, 1, 0, .null),
  (610, .aload_n 0, 0, 0, .null),
  (611, .iload_n 3, 3, 0, .null),
  (612, .iconst 1, 0, 0, .int 1),
  (613, .iadd, 0, 0, .null),
  (614, .iaload, 0, 0, .null),
  (615, .invokevirtual 66, 0, 0, .null)]
theorem o_Lw_law_6 : xchk (yB y_Lw_law) xk_Lw (r_Lw_law_6 ++ [(618, .aload_n 2, 2, 0, .null)]) = true := by decide +kernel
def r_Lw_law_7 : List xRw := [(618, .aload_n 2, 2, 0, .null),
  (619, .aload_n 0, 0, 0, .null),
  (620, .iload_n 3, 3, 0, .null),
  (621, .iconst 1, 0, 0, .int 1),
  (622, .iadd, 0, 0, .null),
  (623, .iaload, 0, 0, .null),
  (624, .invokevirtual 69, 0, 0, .null),
  (627, .if_icmp .eq 206, 833, 0, .null),
  (630, .iconst 0, 0, 0, .int 0),
  (631, .ireturn, 0, 0, .null),
  (632, .aload_n 1, 1, 0, .null),
  (633, .invokevirtual 70, 0, 0, .null),
  (636, .aload_n 2, 2, 0, .null),
  (637, .invokevirtual 73, 0, 0, .null),
  (640, .if_icmp .eq 193, 833, 0, .null),
  (643, .iconst 0, 0, 0, .int 0),
  (644, .ireturn, 0, 0, .null),
  (645, .aload_n 1, 1, 0, .null),
  (646, .aload_n 0, 0, 0, .null),
  (647, .iload_n 3, 3, 0, .null),
  (648, .iconst 1, 0, 0, .int 1),
  (649, .iadd, 0, 0, .null),
  (650, .iaload, 0, 0, .null),
  (651, .aload_n 0, 0, 0, .null),
  (652, .iload_n 3, 3, 0, .null),
  (653, .iconst 2, 0, 0, .int 2),
  (654, .iadd, 0, 0, .null),
  (655, .iaload, 0, 0, .null),
  (656, .invokevirtual 74, 0, 0, .null),
  (659, .aload_n 2, 2, 0, .null),
  (660, .aload_n 0, 0, 0, .null),
  (661, .iload_n 3, 3, 0, .null),
  (662, .iconst 1, 0, 0, .int 1),
  (663, .iadd, 0, 0, .null),
  (664, .iaload, 0, 0, .null),
  (665, .aload_n 0, 0, 0, .null),
  (666, .iload_n 3, 3, 0, .null),
  (667, .iconst 2, 0, 0, .int 2),
  (668, .iadd, 0, 0, .null),
  (669, .iaload, 0, 0, .null),
  (670, .invokevirtual 78, 0, 0, .null),
  (673, .if_icmp .eq 160, 833, 0, .null),
  (676, .iconst 0, 0, 0, .int 0),
  (677, .ireturn, 0, 0, .null),
  (678, .aload_n 1, 1, 0, .null),
  (679, .aload_n 0, 0, 0, .null),
  (680, .iload_n 3, 3, 0, .null),
  (681, .iconst 1, 0, 0, .int 1),
  (682, .iadd, 0, 0, .null),
  (683, .iaload, 0, 0, .null),
  (684, .aload_n 0, 0, 0, .null),
  (685, .iload_n 3, 3, 0, .null),
  (686, .iconst 2, 0, 0, .int 2),
  (687, .iadd, 0, 0, .null),
  (688, .iaload, 0, 0, .null),
  (689, .invokevirtual 79, 0, 0, .null),
  (692, .aload_n 2, 2, 0, .null),
  (693, .aload_n 0, 0, 0, .null),
  (694, .iload_n 3, 3, 0, .null),
  (695, .iconst 1, 0, 0, .int 1)]
theorem o_Lw_law_7 : xchk (yB y_Lw_law) xk_Lw (r_Lw_law_7 ++ [(696, .iadd, 0, 0, .null)]) = true := by decide +kernel
def r_Lw_law_8 : List xRw := [(696, .iadd, 0, 0, .null),
  (697, .iaload, 0, 0, .null),
  (698, .aload_n 0, 0, 0, .null),
  (699, .iload_n 3, 3, 0, .null),
  (700, .iconst 2, 0, 0, .int 2),
  (701, .iadd, 0, 0, .null),
  (702, .iaload, 0, 0, .null),
  (703, .invokevirtual 82, 0, 0, .null),
  (706, .if_icmp .eq 127, 833, 0, .null),
  (709, .iconst 0, 0, 0, .int 0),
  (710, .ireturn, 0, 0, .null),
  (711, .aload_n 1, 1, 0, .null),
  (712, .aload_n 0, 0, 0, .null),
  (713, .iload_n 3, 3, 0, .null),
  (714, .iconst 1, 0, 0, .int 1),
  (715, .iadd, 0, 0, .null),
  (716, .iaload, 0, 0, .null),
  (717, .aload_n 0, 0, 0, .null),
  (718, .iload_n 3, 3, 0, .null),
  (719, .iconst 2, 0, 0, .int 2),
  (720, .iadd, 0, 0, .null),
  (721, .iaload, 0, 0, .null),
  (722, .invokevirtual 83, 0, 0, .null),
  (725, .aload_n 2, 2, 0, .null),
  (726, .aload_n 0, 0, 0, .null),
  (727, .iload_n 3, 3, 0, .null),
  (728, .iconst 1, 0, 0, .int 1),
  (729, .iadd, 0, 0, .null),
  (730, .iaload, 0, 0, .null),
  (731, .aload_n 0, 0, 0, .null),
  (732, .iload_n 3, 3, 0, .null),
  (733, .iconst 2, 0, 0, .int 2),
  (734, .iadd, 0, 0, .null),
  (735, .iaload, 0, 0, .null),
  (736, .invokevirtual 86, 0, 0, .null),
  (739, .if_icmp .eq 94, 833, 0, .null),
  (742, .iconst 0, 0, 0, .int 0),
  (743, .ireturn, 0, 0, .null),
  (744, .aload_n 1, 1, 0, .null),
  (745, .aload_n 0, 0, 0, .null),
  (746, .iload_n 3, 3, 0, .null),
  (747, .iconst 1, 0, 0, .int 1),
  (748, .iadd, 0, 0, .null),
  (749, .iaload, 0, 0, .null),
  (750, .aload_n 0, 0, 0, .null),
  (751, .iload_n 3, 3, 0, .null),
  (752, .iconst 2, 0, 0, .int 2),
  (753, .iadd, 0, 0, .null),
  (754, .iaload, 0, 0, .null),
  (755, .aload_n 0, 0, 0, .null),
  (756, .iload_n 3, 3, 0, .null),
  (757, .iconst 3, 0, 0, .int 3),
  (758, .iadd, 0, 0, .null),
  (759, .iaload, 0, 0, .null),
  (760, .invokevirtual 87, 0, 0, .null),
  (763, .aload_n 2, 2, 0, .null),
  (764, .aload_n 0, 0, 0, .null),
  (765, .iload_n 3, 3, 0, .null),
  (766, .iconst 1, 0, 0, .int 1),
  (767, .iadd, 0, 0, .null)]
theorem o_Lw_law_8 : xchk (yB y_Lw_law) xk_Lw (r_Lw_law_8 ++ [(768, .iaload, 0, 0, .null)]) = true := by decide +kernel
def r_Lw_law_9 : List xRw := [(768, .iaload, 0, 0, .null),
  (769, .aload_n 0, 0, 0, .null),
  (770, .iload_n 3, 3, 0, .null),
  (771, .iconst 2, 0, 0, .int 2),
  (772, .iadd, 0, 0, .null),
  (773, .iaload, 0, 0, .null),
  (774, .aload_n 0, 0, 0, .null),
  (775, .iload_n 3, 3, 0, .null),
  (776, .iconst 3, 0, 0, .int 3),
  (777, .iadd, 0, 0, .null),
  (778, .iaload, 0, 0, .null),
  (779, .invokevirtual 91, 0, 0, .null),
  (782, .if_icmp .eq 51, 833, 0, .null),
  (785, .iconst 0, 0, 0, .int 0),
  (786, .ireturn, 0, 0, .null),
  (787, .aload_n 1, 1, 0, .null),
  (788, .aload_n 0, 0, 0, .null),
  (789, .iload_n 3, 3, 0, .null),
  (790, .iconst 1, 0, 0, .int 1),
  (791, .iadd, 0, 0, .null),
  (792, .iaload, 0, 0, .null),
  (793, .invokevirtual 92, 0, 0, .null),
  (796, .aload_n 2, 2, 0, .null),
  (797, .aload_n 0, 0, 0, .null),
  (798, .iload_n 3, 3, 0, .null),
  (799, .iconst 1, 0, 0, .int 1),
  (800, .iadd, 0, 0, .null),
  (801, .iaload, 0, 0, .null),
  (802, .invokevirtual 95, 0, 0, .null),
  (805, .if_icmp .eq 28, 833, 0, .null),
  (808, .iconst 0, 0, 0, .int 0),
  (809, .ireturn, 0, 0, .null),
  (810, .aload_n 1, 1, 0, .null),
  (811, .aload_n 0, 0, 0, .null),
  (812, .iload_n 3, 3, 0, .null),
  (813, .iconst 1, 0, 0, .int 1),
  (814, .iadd, 0, 0, .null),
  (815, .iaload, 0, 0, .null),
  (816, .invokevirtual 96, 0, 0, .null),
  (819, .aload_n 2, 2, 0, .null),
  (820, .aload_n 0, 0, 0, .null),
  (821, .iload_n 3, 3, 0, .null),
  (822, .iconst 1, 0, 0, .int 1),
  (823, .iadd, 0, 0, .null),
  (824, .iaload, 0, 0, .null),
  (825, .invokevirtual 99, 0, 0, .null),
  (828, .if_icmp .eq 5, 833, 0, .null),
  (831, .iconst 0, 0, 0, .int 0),
  (832, .ireturn, 0, 0, .null),
  (833, .iinc 3 6, 3, 0, .int 6),
  (836, .goto (-818), 18, 0, .null),
  (839, .iconst 1, 0, 0, .int 1),
  (840, .ireturn, 0, 0, .null),
  (841, .nop, 0, 0, .null)]
theorem o_Lw_law_9 : xchk (yB y_Lw_law) xk_Lw (r_Lw_law_9) = true := by decide +kernel
set_option maxRecDepth 20000 in
theorem o_Lw_law : xOK y_Lw_law xk_Lw r_Lw_law := ⟨xk_Lw_ok, (xchk_app r_Lw_law_0 _ _ o_Lw_law_0 (xchk_app r_Lw_law_1 _ _ o_Lw_law_1 (xchk_app r_Lw_law_2 _ _ o_Lw_law_2 (xchk_app r_Lw_law_3 _ _ o_Lw_law_3 (xchk_app r_Lw_law_4 _ _ o_Lw_law_4 (xchk_app r_Lw_law_5 _ _ o_Lw_law_5 (xchk_app r_Lw_law_6 _ _ o_Lw_law_6 (xchk_app r_Lw_law_7 _ _ o_Lw_law_7 (xchk_app r_Lw_law_8 _ _ o_Lw_law_8 o_Lw_law_9)))))))))⟩
end
section
set_option maxRecDepth 20000 in
theorem z_DS_init : xZ y_DS_init 0 := ⟨xtbm (List.mem_of_getElem? (i := 83) rfl) rfl, xtbm (List.mem_of_getElem? (i := 101) rfl) rfl, by decide +kernel, by decide +kernel, by decide +kernel⟩
set_option maxRecDepth 20000 in
theorem i_DS_init : Cond.instanceMethod y_DS_init.1 ∈ xtb := xtbm (List.mem_of_getElem? (i := 100) rfl) rfl
set_option maxRecDepth 20000 in
theorem z_Pr_init : xZ y_Pr_init 0 := ⟨xtbm (List.mem_of_getElem? (i := 84) rfl) rfl, xtbm (List.mem_of_getElem? (i := 109) rfl) rfl, by decide +kernel, by decide +kernel, by decide +kernel⟩
set_option maxRecDepth 20000 in
theorem i_Pr_init : Cond.instanceMethod y_Pr_init.1 ∈ xtb := xtbm (List.mem_of_getElem? (i := 108) rfl) rfl
set_option maxRecDepth 20000 in
theorem z_Re_init : xZ y_Re_init 1 := ⟨xtbm (List.mem_of_getElem? (i := 85) rfl) rfl, xtbm (List.mem_of_getElem? (i := 192) rfl) rfl, by decide +kernel, by decide +kernel, by decide +kernel⟩
set_option maxRecDepth 20000 in
theorem i_Re_init : Cond.instanceMethod y_Re_init.1 ∈ xtb := xtbm (List.mem_of_getElem? (i := 191) rfl) rfl
set_option maxRecDepth 20000 in
theorem z_Ch_init : xZ y_Ch_init 0 := ⟨xtbm (List.mem_of_getElem? (i := 86) rfl) rfl, xtbm (List.mem_of_getElem? (i := 198) rfl) rfl, by decide +kernel, by decide +kernel, by decide +kernel⟩
set_option maxRecDepth 20000 in
theorem i_Ch_init : Cond.instanceMethod y_Ch_init.1 ∈ xtb := xtbm (List.mem_of_getElem? (i := 197) rfl) rfl
set_option maxRecDepth 20000 in
theorem z_La_init : xZ y_La_init 2 := ⟨xtbm (List.mem_of_getElem? (i := 87) rfl) rfl, xtbm (List.mem_of_getElem? (i := 258) rfl) rfl, by decide +kernel, by decide +kernel, by decide +kernel⟩
set_option maxRecDepth 20000 in
theorem i_La_init : Cond.instanceMethod y_La_init.1 ∈ xtb := xtbm (List.mem_of_getElem? (i := 257) rfl) rfl
set_option maxRecDepth 20000 in
theorem z_BO_init : xZ y_BO_init 0 := ⟨xtbm (List.mem_of_getElem? (i := 88) rfl) rfl, xtbm (List.mem_of_getElem? (i := 264) rfl) rfl, by decide +kernel, by decide +kernel, by decide +kernel⟩
set_option maxRecDepth 20000 in
theorem i_BO_init : Cond.instanceMethod y_BO_init.1 ∈ xtb := xtbm (List.mem_of_getElem? (i := 263) rfl) rfl
set_option maxRecDepth 20000 in
theorem z_Ma_init : xZ y_Ma_init 1 := ⟨xtbm (List.mem_of_getElem? (i := 89) rfl) rfl, xtbm (List.mem_of_getElem? (i := 330) rfl) rfl, by decide +kernel, by decide +kernel, by decide +kernel⟩
set_option maxRecDepth 20000 in
theorem i_Ma_init : Cond.instanceMethod y_Ma_init.1 ∈ xtb := xtbm (List.mem_of_getElem? (i := 329) rfl) rfl
set_option maxRecDepth 20000 in
theorem z_DS_item : xZ y_DS_item 5 := ⟨xtbm (List.mem_of_getElem? (i := 83) rfl) rfl, xtbm (List.mem_of_getElem? (i := 397) rfl) rfl, by decide +kernel, by decide +kernel, by decide +kernel⟩
set_option maxRecDepth 20000 in
theorem i_DS_item : Cond.instanceMethod y_DS_item.1 ∈ xtb := xtbm (List.mem_of_getElem? (i := 395) rfl) rfl
set_option maxRecDepth 20000 in
theorem v_DS_item : Cond.selects y_DS_item.1.cls y_DS_item.1 y_DS_item.1 ∈ xtb := xtbm (List.mem_of_getElem? (i := 396) rfl) rfl
set_option maxRecDepth 20000 in
theorem z_Pr_isItem : xZ y_Pr_isItem 4 := ⟨xtbm (List.mem_of_getElem? (i := 84) rfl) rfl, xtbm (List.mem_of_getElem? (i := 400) rfl) rfl, by decide +kernel, by decide +kernel, by decide +kernel⟩
set_option maxRecDepth 20000 in
theorem s_Pr_isItem : Cond.static y_Pr_isItem.1 ∈ xtb := xtbm (List.mem_of_getElem? (i := 399) rfl) rfl
set_option maxRecDepth 20000 in
theorem z_DS_isItemNumber : xZ y_DS_isItemNumber 1 := ⟨xtbm (List.mem_of_getElem? (i := 83) rfl) rfl, xtbm (List.mem_of_getElem? (i := 403) rfl) rfl, by decide +kernel, by decide +kernel, by decide +kernel⟩
set_option maxRecDepth 20000 in
theorem s_DS_isItemNumber : Cond.static y_DS_isItemNumber.1 ∈ xtb := xtbm (List.mem_of_getElem? (i := 402) rfl) rfl
set_option maxRecDepth 20000 in
theorem z_DS_within : xZ y_DS_within 3 := ⟨xtbm (List.mem_of_getElem? (i := 83) rfl) rfl, xtbm (List.mem_of_getElem? (i := 406) rfl) rfl, by decide +kernel, by decide +kernel, by decide +kernel⟩
set_option maxRecDepth 20000 in
theorem s_DS_within : Cond.static y_DS_within.1 ∈ xtb := xtbm (List.mem_of_getElem? (i := 405) rfl) rfl
set_option maxRecDepth 20000 in
theorem z_Pr_tellItem : xZ y_Pr_tellItem 5 := ⟨xtbm (List.mem_of_getElem? (i := 84) rfl) rfl, xtbm (List.mem_of_getElem? (i := 410) rfl) rfl, by decide +kernel, by decide +kernel, by decide +kernel⟩
set_option maxRecDepth 20000 in
theorem i_Pr_tellItem : Cond.instanceMethod y_Pr_tellItem.1 ∈ xtb := xtbm (List.mem_of_getElem? (i := 408) rfl) rfl
set_option maxRecDepth 20000 in
theorem v_Pr_tellItem : Cond.selects y_Pr_tellItem.1.cls y_Pr_tellItem.1 y_Pr_tellItem.1 ∈ xtb := xtbm (List.mem_of_getElem? (i := 409) rfl) rfl
set_option maxRecDepth 20000 in
theorem z_Pr_forgetReferencesTo : xZ y_Pr_forgetReferencesTo 1 := ⟨xtbm (List.mem_of_getElem? (i := 84) rfl) rfl, xtbm (List.mem_of_getElem? (i := 414) rfl) rfl, by decide +kernel, by decide +kernel, by decide +kernel⟩
set_option maxRecDepth 20000 in
theorem i_Pr_forgetReferencesTo : Cond.instanceMethod y_Pr_forgetReferencesTo.1 ∈ xtb := xtbm (List.mem_of_getElem? (i := 413) rfl) rfl
set_option maxRecDepth 20000 in
theorem v_Pr_forgetReferencesTo : Cond.selects y_Pr_forgetReferencesTo.1.cls y_Pr_forgetReferencesTo.1 y_Pr_forgetReferencesTo.1 ∈ xtb := xtbm (List.mem_of_getElem? (i := 0) rfl) rfl
set_option maxRecDepth 20000 in
theorem z_DS_bytes : xZ y_DS_bytes 4 := ⟨xtbm (List.mem_of_getElem? (i := 83) rfl) rfl, xtbm (List.mem_of_getElem? (i := 419) rfl) rfl, by decide +kernel, by decide +kernel, by decide +kernel⟩
set_option maxRecDepth 20000 in
theorem i_DS_bytes : Cond.instanceMethod y_DS_bytes.1 ∈ xtb := xtbm (List.mem_of_getElem? (i := 417) rfl) rfl
set_option maxRecDepth 20000 in
theorem v_DS_bytes : Cond.selects y_DS_bytes.1.cls y_DS_bytes.1 y_DS_bytes.1 ∈ xtb := xtbm (List.mem_of_getElem? (i := 418) rfl) rfl
set_option maxRecDepth 20000 in
theorem z_Pr_hasPlace : xZ y_Pr_hasPlace 2 := ⟨xtbm (List.mem_of_getElem? (i := 84) rfl) rfl, xtbm (List.mem_of_getElem? (i := 423) rfl) rfl, by decide +kernel, by decide +kernel, by decide +kernel⟩
set_option maxRecDepth 20000 in
theorem i_Pr_hasPlace : Cond.instanceMethod y_Pr_hasPlace.1 ∈ xtb := xtbm (List.mem_of_getElem? (i := 421) rfl) rfl
set_option maxRecDepth 20000 in
theorem v_Pr_hasPlace : Cond.selects y_Pr_hasPlace.1.cls y_Pr_hasPlace.1 y_Pr_hasPlace.1 ∈ xtb := xtbm (List.mem_of_getElem? (i := 422) rfl) rfl
set_option maxRecDepth 20000 in
theorem z_Pr_tellOctets : xZ y_Pr_tellOctets 4 := ⟨xtbm (List.mem_of_getElem? (i := 84) rfl) rfl, xtbm (List.mem_of_getElem? (i := 428) rfl) rfl, by decide +kernel, by decide +kernel, by decide +kernel⟩
set_option maxRecDepth 20000 in
theorem i_Pr_tellOctets : Cond.instanceMethod y_Pr_tellOctets.1 ∈ xtb := xtbm (List.mem_of_getElem? (i := 426) rfl) rfl
set_option maxRecDepth 20000 in
theorem v_Pr_tellOctets : Cond.selects y_Pr_tellOctets.1.cls y_Pr_tellOctets.1 y_Pr_tellOctets.1 ∈ xtb := xtbm (List.mem_of_getElem? (i := 427) rfl) rfl
set_option maxRecDepth 20000 in
theorem z_JM_min : xZ y_JM_min 2 := ⟨xtbm (List.mem_of_getElem? (i := 91) rfl) rfl, xtbm (List.mem_of_getElem? (i := 431) rfl) rfl, by decide +kernel, by decide +kernel, by decide +kernel⟩
set_option maxRecDepth 20000 in
theorem s_JM_min : Cond.static y_JM_min.1 ∈ xtb := xtbm (List.mem_of_getElem? (i := 430) rfl) rfl
set_option maxRecDepth 20000 in
theorem z_DS_octetOf : xZ y_DS_octetOf 2 := ⟨xtbm (List.mem_of_getElem? (i := 83) rfl) rfl, xtbm (List.mem_of_getElem? (i := 434) rfl) rfl, by decide +kernel, by decide +kernel, by decide +kernel⟩
set_option maxRecDepth 20000 in
theorem s_DS_octetOf : Cond.static y_DS_octetOf.1 ∈ xtb := xtbm (List.mem_of_getElem? (i := 433) rfl) rfl
set_option maxRecDepth 20000 in
theorem z_DS_refer : xZ y_DS_refer 3 := ⟨xtbm (List.mem_of_getElem? (i := 83) rfl) rfl, xtbm (List.mem_of_getElem? (i := 438) rfl) rfl, by decide +kernel, by decide +kernel, by decide +kernel⟩
set_option maxRecDepth 20000 in
theorem i_DS_refer : Cond.instanceMethod y_DS_refer.1 ∈ xtb := xtbm (List.mem_of_getElem? (i := 436) rfl) rfl
set_option maxRecDepth 20000 in
theorem v_DS_refer : Cond.selects y_DS_refer.1.cls y_DS_refer.1 y_DS_refer.1 ∈ xtb := xtbm (List.mem_of_getElem? (i := 437) rfl) rfl
set_option maxRecDepth 20000 in
theorem z_Pr_hasItem : xZ y_Pr_hasItem 1 := ⟨xtbm (List.mem_of_getElem? (i := 84) rfl) rfl, xtbm (List.mem_of_getElem? (i := 442) rfl) rfl, by decide +kernel, by decide +kernel, by decide +kernel⟩
set_option maxRecDepth 20000 in
theorem i_Pr_hasItem : Cond.instanceMethod y_Pr_hasItem.1 ∈ xtb := xtbm (List.mem_of_getElem? (i := 440) rfl) rfl
set_option maxRecDepth 20000 in
theorem v_Pr_hasItem : Cond.selects y_Pr_hasItem.1.cls y_Pr_hasItem.1 y_Pr_hasItem.1 ∈ xtb := xtbm (List.mem_of_getElem? (i := 441) rfl) rfl
set_option maxRecDepth 20000 in
theorem z_Pr_tellReference : xZ y_Pr_tellReference 3 := ⟨xtbm (List.mem_of_getElem? (i := 84) rfl) rfl, xtbm (List.mem_of_getElem? (i := 446) rfl) rfl, by decide +kernel, by decide +kernel, by decide +kernel⟩
set_option maxRecDepth 20000 in
theorem i_Pr_tellReference : Cond.instanceMethod y_Pr_tellReference.1 ∈ xtb := xtbm (List.mem_of_getElem? (i := 444) rfl) rfl
set_option maxRecDepth 20000 in
theorem v_Pr_tellReference : Cond.selects y_Pr_tellReference.1.cls y_Pr_tellReference.1 y_Pr_tellReference.1 ∈ xtb := xtbm (List.mem_of_getElem? (i := 445) rfl) rfl
set_option maxRecDepth 20000 in
theorem z_DS_code : xZ y_DS_code 5 := ⟨xtbm (List.mem_of_getElem? (i := 83) rfl) rfl, xtbm (List.mem_of_getElem? (i := 450) rfl) rfl, by decide +kernel, by decide +kernel, by decide +kernel⟩
set_option maxRecDepth 20000 in
theorem i_DS_code : Cond.instanceMethod y_DS_code.1 ∈ xtb := xtbm (List.mem_of_getElem? (i := 448) rfl) rfl
set_option maxRecDepth 20000 in
theorem v_DS_code : Cond.selects y_DS_code.1.cls y_DS_code.1 y_DS_code.1 ∈ xtb := xtbm (List.mem_of_getElem? (i := 449) rfl) rfl
set_option maxRecDepth 20000 in
theorem z_DS_isFunction : xZ y_DS_isFunction 1 := ⟨xtbm (List.mem_of_getElem? (i := 83) rfl) rfl, xtbm (List.mem_of_getElem? (i := 453) rfl) rfl, by decide +kernel, by decide +kernel, by decide +kernel⟩
set_option maxRecDepth 20000 in
theorem s_DS_isFunction : Cond.static y_DS_isFunction.1 ∈ xtb := xtbm (List.mem_of_getElem? (i := 452) rfl) rfl
set_option maxRecDepth 20000 in
theorem z_Pr_isInstruction : xZ y_Pr_isInstruction 4 := ⟨xtbm (List.mem_of_getElem? (i := 84) rfl) rfl, xtbm (List.mem_of_getElem? (i := 456) rfl) rfl, by decide +kernel, by decide +kernel, by decide +kernel⟩
set_option maxRecDepth 20000 in
theorem s_Pr_isInstruction : Cond.static y_Pr_isInstruction.1 ∈ xtb := xtbm (List.mem_of_getElem? (i := 455) rfl) rfl
set_option maxRecDepth 20000 in
theorem z_DS_isRegister : xZ y_DS_isRegister 1 := ⟨xtbm (List.mem_of_getElem? (i := 83) rfl) rfl, xtbm (List.mem_of_getElem? (i := 459) rfl) rfl, by decide +kernel, by decide +kernel, by decide +kernel⟩
set_option maxRecDepth 20000 in
theorem s_DS_isRegister : Cond.static y_DS_isRegister.1 ∈ xtb := xtbm (List.mem_of_getElem? (i := 458) rfl) rfl
set_option maxRecDepth 20000 in
theorem z_Pr_addInstruction : xZ y_Pr_addInstruction 5 := ⟨xtbm (List.mem_of_getElem? (i := 84) rfl) rfl, xtbm (List.mem_of_getElem? (i := 464) rfl) rfl, by decide +kernel, by decide +kernel, by decide +kernel⟩
set_option maxRecDepth 20000 in
theorem i_Pr_addInstruction : Cond.instanceMethod y_Pr_addInstruction.1 ∈ xtb := xtbm (List.mem_of_getElem? (i := 462) rfl) rfl
set_option maxRecDepth 20000 in
theorem v_Pr_addInstruction : Cond.selects y_Pr_addInstruction.1.cls y_Pr_addInstruction.1 y_Pr_addInstruction.1 ∈ xtb := xtbm (List.mem_of_getElem? (i := 463) rfl) rfl
set_option maxRecDepth 20000 in
theorem z_DS_clear : xZ y_DS_clear 1 := ⟨xtbm (List.mem_of_getElem? (i := 83) rfl) rfl, xtbm (List.mem_of_getElem? (i := 468) rfl) rfl, by decide +kernel, by decide +kernel, by decide +kernel⟩
set_option maxRecDepth 20000 in
theorem i_DS_clear : Cond.instanceMethod y_DS_clear.1 ∈ xtb := xtbm (List.mem_of_getElem? (i := 466) rfl) rfl
set_option maxRecDepth 20000 in
theorem v_DS_clear : Cond.selects y_DS_clear.1.cls y_DS_clear.1 y_DS_clear.1 ∈ xtb := xtbm (List.mem_of_getElem? (i := 467) rfl) rfl
set_option maxRecDepth 20000 in
theorem z_DS_entry : xZ y_DS_entry 2 := ⟨xtbm (List.mem_of_getElem? (i := 83) rfl) rfl, xtbm (List.mem_of_getElem? (i := 472) rfl) rfl, by decide +kernel, by decide +kernel, by decide +kernel⟩
set_option maxRecDepth 20000 in
theorem i_DS_entry : Cond.instanceMethod y_DS_entry.1 ∈ xtb := xtbm (List.mem_of_getElem? (i := 470) rfl) rfl
set_option maxRecDepth 20000 in
theorem v_DS_entry : Cond.selects y_DS_entry.1.cls y_DS_entry.1 y_DS_entry.1 ∈ xtb := xtbm (List.mem_of_getElem? (i := 471) rfl) rfl
set_option maxRecDepth 20000 in
theorem z_DS_input1 : xZ y_DS_input1 2 := ⟨xtbm (List.mem_of_getElem? (i := 83) rfl) rfl, xtbm (List.mem_of_getElem? (i := 476) rfl) rfl, by decide +kernel, by decide +kernel, by decide +kernel⟩
set_option maxRecDepth 20000 in
theorem i_DS_input1 : Cond.instanceMethod y_DS_input1.1 ∈ xtb := xtbm (List.mem_of_getElem? (i := 474) rfl) rfl
set_option maxRecDepth 20000 in
theorem v_DS_input1 : Cond.selects y_DS_input1.1.cls y_DS_input1.1 y_DS_input1.1 ∈ xtb := xtbm (List.mem_of_getElem? (i := 475) rfl) rfl
set_option maxRecDepth 20000 in
theorem z_Pr_addInput : xZ y_Pr_addInput 2 := ⟨xtbm (List.mem_of_getElem? (i := 84) rfl) rfl, xtbm (List.mem_of_getElem? (i := 480) rfl) rfl, by decide +kernel, by decide +kernel, by decide +kernel⟩
set_option maxRecDepth 20000 in
theorem i_Pr_addInput : Cond.instanceMethod y_Pr_addInput.1 ∈ xtb := xtbm (List.mem_of_getElem? (i := 478) rfl) rfl
set_option maxRecDepth 20000 in
theorem v_Pr_addInput : Cond.selects y_Pr_addInput.1.cls y_Pr_addInput.1 y_Pr_addInput.1 ∈ xtb := xtbm (List.mem_of_getElem? (i := 479) rfl) rfl
set_option maxRecDepth 20000 in
theorem z_DS_input2 : xZ y_DS_input2 0 := ⟨xtbm (List.mem_of_getElem? (i := 83) rfl) rfl, xtbm (List.mem_of_getElem? (i := 484) rfl) rfl, by decide +kernel, by decide +kernel, by decide +kernel⟩
set_option maxRecDepth 20000 in
theorem i_DS_input2 : Cond.instanceMethod y_DS_input2.1 ∈ xtb := xtbm (List.mem_of_getElem? (i := 482) rfl) rfl
set_option maxRecDepth 20000 in
theorem v_DS_input2 : Cond.selects y_DS_input2.1.cls y_DS_input2.1 y_DS_input2.1 ∈ xtb := xtbm (List.mem_of_getElem? (i := 483) rfl) rfl
set_option maxRecDepth 20000 in
theorem z_DS_run : xZ y_DS_run 1 := ⟨xtbm (List.mem_of_getElem? (i := 83) rfl) rfl, xtbm (List.mem_of_getElem? (i := 488) rfl) rfl, by decide +kernel, by decide +kernel, by decide +kernel⟩
set_option maxRecDepth 20000 in
theorem i_DS_run : Cond.instanceMethod y_DS_run.1 ∈ xtb := xtbm (List.mem_of_getElem? (i := 486) rfl) rfl
set_option maxRecDepth 20000 in
theorem v_DS_run : Cond.selects y_DS_run.1.cls y_DS_run.1 y_DS_run.1 ∈ xtb := xtbm (List.mem_of_getElem? (i := 487) rfl) rfl
set_option maxRecDepth 20000 in
theorem z_Pr_hasEntry : xZ y_Pr_hasEntry 1 := ⟨xtbm (List.mem_of_getElem? (i := 84) rfl) rfl, xtbm (List.mem_of_getElem? (i := 492) rfl) rfl, by decide +kernel, by decide +kernel, by decide +kernel⟩
set_option maxRecDepth 20000 in
theorem i_Pr_hasEntry : Cond.instanceMethod y_Pr_hasEntry.1 ∈ xtb := xtbm (List.mem_of_getElem? (i := 490) rfl) rfl
set_option maxRecDepth 20000 in
theorem v_Pr_hasEntry : Cond.selects y_Pr_hasEntry.1.cls y_Pr_hasEntry.1 y_Pr_hasEntry.1 ∈ xtb := xtbm (List.mem_of_getElem? (i := 491) rfl) rfl
set_option maxRecDepth 20000 in
theorem z_Ma_takeAsTold : xZ y_Ma_takeAsTold 0 := ⟨xtbm (List.mem_of_getElem? (i := 89) rfl) rfl, xtbm (List.mem_of_getElem? (i := 496) rfl) rfl, by decide +kernel, by decide +kernel, by decide +kernel⟩
set_option maxRecDepth 20000 in
theorem i_Ma_takeAsTold : Cond.instanceMethod y_Ma_takeAsTold.1 ∈ xtb := xtbm (List.mem_of_getElem? (i := 494) rfl) rfl
set_option maxRecDepth 20000 in
theorem v_Ma_takeAsTold : Cond.selects y_Ma_takeAsTold.1.cls y_Ma_takeAsTold.1 y_Ma_takeAsTold.1 ∈ xtb := xtbm (List.mem_of_getElem? (i := 495) rfl) rfl
set_option maxRecDepth 20000 in
theorem z_Ma_work : xZ y_Ma_work 1 := ⟨xtbm (List.mem_of_getElem? (i := 89) rfl) rfl, xtbm (List.mem_of_getElem? (i := 503) rfl) rfl, by decide +kernel, by decide +kernel, by decide +kernel⟩
set_option maxRecDepth 20000 in
theorem i_Ma_work : Cond.instanceMethod y_Ma_work.1 ∈ xtb := xtbm (List.mem_of_getElem? (i := 501) rfl) rfl
set_option maxRecDepth 20000 in
theorem v_Ma_work : Cond.selects y_Ma_work.1.cls y_Ma_work.1 y_Ma_work.1 ∈ xtb := xtbm (List.mem_of_getElem? (i := 502) rfl) rfl
set_option maxRecDepth 20000 in
theorem z_Ma_begin : xZ y_Ma_begin 1 := ⟨xtbm (List.mem_of_getElem? (i := 89) rfl) rfl, xtbm (List.mem_of_getElem? (i := 507) rfl) rfl, by decide +kernel, by decide +kernel, by decide +kernel⟩
set_option maxRecDepth 20000 in
theorem i_Ma_begin : Cond.instanceMethod y_Ma_begin.1 ∈ xtb := xtbm (List.mem_of_getElem? (i := 506) rfl) rfl
set_option maxRecDepth 20000 in
theorem v_Ma_begin : Cond.selects y_Ma_begin.1.cls y_Ma_begin.1 y_Ma_begin.1 ∈ xtb := xtbm (List.mem_of_getElem? (i := 1) rfl) rfl
set_option maxRecDepth 20000 in
theorem z_JA_fill1 : xZ y_JA_fill1 2 := ⟨xtbm (List.mem_of_getElem? (i := 93) rfl) rfl, xtbm (List.mem_of_getElem? (i := 510) rfl) rfl, by decide +kernel, by decide +kernel, by decide +kernel⟩
set_option maxRecDepth 20000 in
theorem s_JA_fill1 : Cond.static y_JA_fill1.1 ∈ xtb := xtbm (List.mem_of_getElem? (i := 509) rfl) rfl
set_option maxRecDepth 20000 in
theorem z_Ma_leave : xZ y_Ma_leave 0 := ⟨xtbm (List.mem_of_getElem? (i := 89) rfl) rfl, xtbm (List.mem_of_getElem? (i := 515) rfl) rfl, by decide +kernel, by decide +kernel, by decide +kernel⟩
set_option maxRecDepth 20000 in
theorem i_Ma_leave : Cond.instanceMethod y_Ma_leave.1 ∈ xtb := xtbm (List.mem_of_getElem? (i := 514) rfl) rfl
set_option maxRecDepth 20000 in
theorem v_Ma_leave : Cond.selects y_Ma_leave.1.cls y_Ma_leave.1 y_Ma_leave.1 ∈ xtb := xtbm (List.mem_of_getElem? (i := 2) rfl) rfl
set_option maxRecDepth 20000 in
theorem z_Ma_carryOut : xZ y_Ma_carryOut 1 := ⟨xtbm (List.mem_of_getElem? (i := 89) rfl) rfl, xtbm (List.mem_of_getElem? (i := 519) rfl) rfl, by decide +kernel, by decide +kernel, by decide +kernel⟩
set_option maxRecDepth 20000 in
theorem i_Ma_carryOut : Cond.instanceMethod y_Ma_carryOut.1 ∈ xtb := xtbm (List.mem_of_getElem? (i := 518) rfl) rfl
set_option maxRecDepth 20000 in
theorem v_Ma_carryOut : Cond.selects y_Ma_carryOut.1.cls y_Ma_carryOut.1 y_Ma_carryOut.1 ∈ xtb := xtbm (List.mem_of_getElem? (i := 3) rfl) rfl
set_option maxRecDepth 20000 in
theorem z_Ma_put : xZ y_Ma_put 2 := ⟨xtbm (List.mem_of_getElem? (i := 89) rfl) rfl, xtbm (List.mem_of_getElem? (i := 523) rfl) rfl, by decide +kernel, by decide +kernel, by decide +kernel⟩
set_option maxRecDepth 20000 in
theorem i_Ma_put : Cond.instanceMethod y_Ma_put.1 ∈ xtb := xtbm (List.mem_of_getElem? (i := 522) rfl) rfl
set_option maxRecDepth 20000 in
theorem v_Ma_put : Cond.selects y_Ma_put.1.cls y_Ma_put.1 y_Ma_put.1 ∈ xtb := xtbm (List.mem_of_getElem? (i := 4) rfl) rfl
set_option maxRecDepth 20000 in
theorem z_JM_floorMod : xZ y_JM_floorMod 2 := ⟨xtbm (List.mem_of_getElem? (i := 91) rfl) rfl, xtbm (List.mem_of_getElem? (i := 526) rfl) rfl, by decide +kernel, by decide +kernel, by decide +kernel⟩
set_option maxRecDepth 20000 in
theorem s_JM_floorMod : Cond.static y_JM_floorMod.1 ∈ xtb := xtbm (List.mem_of_getElem? (i := 525) rfl) rfl
set_option maxRecDepth 20000 in
theorem z_Ma_load : xZ y_Ma_load 3 := ⟨xtbm (List.mem_of_getElem? (i := 89) rfl) rfl, xtbm (List.mem_of_getElem? (i := 530) rfl) rfl, by decide +kernel, by decide +kernel, by decide +kernel⟩
set_option maxRecDepth 20000 in
theorem i_Ma_load : Cond.instanceMethod y_Ma_load.1 ∈ xtb := xtbm (List.mem_of_getElem? (i := 529) rfl) rfl
set_option maxRecDepth 20000 in
theorem v_Ma_load : Cond.selects y_Ma_load.1.cls y_Ma_load.1 y_Ma_load.1 ∈ xtb := xtbm (List.mem_of_getElem? (i := 5) rfl) rfl
set_option maxRecDepth 20000 in
theorem z_Ma_store : xZ y_Ma_store 3 := ⟨xtbm (List.mem_of_getElem? (i := 89) rfl) rfl, xtbm (List.mem_of_getElem? (i := 535) rfl) rfl, by decide +kernel, by decide +kernel, by decide +kernel⟩
set_option maxRecDepth 20000 in
theorem i_Ma_store : Cond.instanceMethod y_Ma_store.1 ∈ xtb := xtbm (List.mem_of_getElem? (i := 534) rfl) rfl
set_option maxRecDepth 20000 in
theorem v_Ma_store : Cond.selects y_Ma_store.1.cls y_Ma_store.1 y_Ma_store.1 ∈ xtb := xtbm (List.mem_of_getElem? (i := 6) rfl) rfl
set_option maxRecDepth 20000 in
theorem z_Ma_openFunction : xZ y_Ma_openFunction 1 := ⟨xtbm (List.mem_of_getElem? (i := 89) rfl) rfl, xtbm (List.mem_of_getElem? (i := 539) rfl) rfl, by decide +kernel, by decide +kernel, by decide +kernel⟩
set_option maxRecDepth 20000 in
theorem i_Ma_openFunction : Cond.instanceMethod y_Ma_openFunction.1 ∈ xtb := xtbm (List.mem_of_getElem? (i := 538) rfl) rfl
set_option maxRecDepth 20000 in
theorem v_Ma_openFunction : Cond.selects y_Ma_openFunction.1.cls y_Ma_openFunction.1 y_Ma_openFunction.1 ∈ xtb := xtbm (List.mem_of_getElem? (i := 7) rfl) rfl
set_option maxRecDepth 20000 in
theorem z_Ma_skip : xZ y_Ma_skip 1 := ⟨xtbm (List.mem_of_getElem? (i := 89) rfl) rfl, xtbm (List.mem_of_getElem? (i := 543) rfl) rfl, by decide +kernel, by decide +kernel, by decide +kernel⟩
set_option maxRecDepth 20000 in
theorem i_Ma_skip : Cond.instanceMethod y_Ma_skip.1 ∈ xtb := xtbm (List.mem_of_getElem? (i := 542) rfl) rfl
set_option maxRecDepth 20000 in
theorem v_Ma_skip : Cond.selects y_Ma_skip.1.cls y_Ma_skip.1 y_Ma_skip.1 ∈ xtb := xtbm (List.mem_of_getElem? (i := 8) rfl) rfl
set_option maxRecDepth 20000 in
theorem z_Ma_send : xZ y_Ma_send 1 := ⟨xtbm (List.mem_of_getElem? (i := 89) rfl) rfl, xtbm (List.mem_of_getElem? (i := 547) rfl) rfl, by decide +kernel, by decide +kernel, by decide +kernel⟩
set_option maxRecDepth 20000 in
theorem i_Ma_send : Cond.instanceMethod y_Ma_send.1 ∈ xtb := xtbm (List.mem_of_getElem? (i := 546) rfl) rfl
set_option maxRecDepth 20000 in
theorem v_Ma_send : Cond.selects y_Ma_send.1.cls y_Ma_send.1 y_Ma_send.1 ∈ xtb := xtbm (List.mem_of_getElem? (i := 9) rfl) rfl
set_option maxRecDepth 20000 in
theorem z_Ma_takeInput : xZ y_Ma_takeInput 0 := ⟨xtbm (List.mem_of_getElem? (i := 89) rfl) rfl, xtbm (List.mem_of_getElem? (i := 551) rfl) rfl, by decide +kernel, by decide +kernel, by decide +kernel⟩
set_option maxRecDepth 20000 in
theorem i_Ma_takeInput : Cond.instanceMethod y_Ma_takeInput.1 ∈ xtb := xtbm (List.mem_of_getElem? (i := 550) rfl) rfl
set_option maxRecDepth 20000 in
theorem v_Ma_takeInput : Cond.selects y_Ma_takeInput.1.cls y_Ma_takeInput.1 y_Ma_takeInput.1 ∈ xtb := xtbm (List.mem_of_getElem? (i := 10) rfl) rfl
set_option maxRecDepth 20000 in
theorem z_Ma_standAsOne : xZ y_Ma_standAsOne 2 := ⟨xtbm (List.mem_of_getElem? (i := 89) rfl) rfl, xtbm (List.mem_of_getElem? (i := 555) rfl) rfl, by decide +kernel, by decide +kernel, by decide +kernel⟩
set_option maxRecDepth 20000 in
theorem i_Ma_standAsOne : Cond.instanceMethod y_Ma_standAsOne.1 ∈ xtb := xtbm (List.mem_of_getElem? (i := 554) rfl) rfl
set_option maxRecDepth 20000 in
theorem v_Ma_standAsOne : Cond.selects y_Ma_standAsOne.1.cls y_Ma_standAsOne.1 y_Ma_standAsOne.1 ∈ xtb := xtbm (List.mem_of_getElem? (i := 11) rfl) rfl
set_option maxRecDepth 20000 in
theorem z_DS_asNumber : xZ y_DS_asNumber 1 := ⟨xtbm (List.mem_of_getElem? (i := 83) rfl) rfl, xtbm (List.mem_of_getElem? (i := 558) rfl) rfl, by decide +kernel, by decide +kernel, by decide +kernel⟩
set_option maxRecDepth 20000 in
theorem s_DS_asNumber : Cond.static y_DS_asNumber.1 ∈ xtb := xtbm (List.mem_of_getElem? (i := 557) rfl) rfl
set_option maxRecDepth 20000 in
theorem z_Ma_follow : xZ y_Ma_follow 3 := ⟨xtbm (List.mem_of_getElem? (i := 89) rfl) rfl, xtbm (List.mem_of_getElem? (i := 562) rfl) rfl, by decide +kernel, by decide +kernel, by decide +kernel⟩
set_option maxRecDepth 20000 in
theorem i_Ma_follow : Cond.instanceMethod y_Ma_follow.1 ∈ xtb := xtbm (List.mem_of_getElem? (i := 561) rfl) rfl
set_option maxRecDepth 20000 in
theorem v_Ma_follow : Cond.selects y_Ma_follow.1.cls y_Ma_follow.1 y_Ma_follow.1 ∈ xtb := xtbm (List.mem_of_getElem? (i := 12) rfl) rfl
set_option maxRecDepth 20000 in
theorem z_Pr_hasReference : xZ y_Pr_hasReference 2 := ⟨xtbm (List.mem_of_getElem? (i := 84) rfl) rfl, xtbm (List.mem_of_getElem? (i := 566) rfl) rfl, by decide +kernel, by decide +kernel, by decide +kernel⟩
set_option maxRecDepth 20000 in
theorem i_Pr_hasReference : Cond.instanceMethod y_Pr_hasReference.1 ∈ xtb := xtbm (List.mem_of_getElem? (i := 564) rfl) rfl
set_option maxRecDepth 20000 in
theorem v_Pr_hasReference : Cond.selects y_Pr_hasReference.1.cls y_Pr_hasReference.1 y_Pr_hasReference.1 ∈ xtb := xtbm (List.mem_of_getElem? (i := 565) rfl) rfl
set_option maxRecDepth 20000 in
theorem z_DS_runLaid : xZ y_DS_runLaid 1 := ⟨xtbm (List.mem_of_getElem? (i := 83) rfl) rfl, xtbm (List.mem_of_getElem? (i := 570) rfl) rfl, by decide +kernel, by decide +kernel, by decide +kernel⟩
set_option maxRecDepth 20000 in
theorem i_DS_runLaid : Cond.instanceMethod y_DS_runLaid.1 ∈ xtb := xtbm (List.mem_of_getElem? (i := 568) rfl) rfl
set_option maxRecDepth 20000 in
theorem v_DS_runLaid : Cond.selects y_DS_runLaid.1.cls y_DS_runLaid.1 y_DS_runLaid.1 ∈ xtb := xtbm (List.mem_of_getElem? (i := 569) rfl) rfl
set_option maxRecDepth 20000 in
theorem z_Ma_takeAsLaid : xZ y_Ma_takeAsLaid 1 := ⟨xtbm (List.mem_of_getElem? (i := 89) rfl) rfl, xtbm (List.mem_of_getElem? (i := 574) rfl) rfl, by decide +kernel, by decide +kernel, by decide +kernel⟩
set_option maxRecDepth 20000 in
theorem i_Ma_takeAsLaid : Cond.instanceMethod y_Ma_takeAsLaid.1 ∈ xtb := xtbm (List.mem_of_getElem? (i := 572) rfl) rfl
set_option maxRecDepth 20000 in
theorem v_Ma_takeAsLaid : Cond.selects y_Ma_takeAsLaid.1.cls y_Ma_takeAsLaid.1 y_Ma_takeAsLaid.1 ∈ xtb := xtbm (List.mem_of_getElem? (i := 573) rfl) rfl
set_option maxRecDepth 20000 in
theorem z_DS_ran : xZ y_DS_ran 1 := ⟨xtbm (List.mem_of_getElem? (i := 83) rfl) rfl, xtbm (List.mem_of_getElem? (i := 578) rfl) rfl, by decide +kernel, by decide +kernel, by decide +kernel⟩
set_option maxRecDepth 20000 in
theorem i_DS_ran : Cond.instanceMethod y_DS_ran.1 ∈ xtb := xtbm (List.mem_of_getElem? (i := 576) rfl) rfl
set_option maxRecDepth 20000 in
theorem v_DS_ran : Cond.selects y_DS_ran.1.cls y_DS_ran.1 y_DS_ran.1 ∈ xtb := xtbm (List.mem_of_getElem? (i := 577) rfl) rfl
set_option maxRecDepth 20000 in
theorem z_Ma_tell : xZ y_Ma_tell 1 := ⟨xtbm (List.mem_of_getElem? (i := 89) rfl) rfl, xtbm (List.mem_of_getElem? (i := 582) rfl) rfl, by decide +kernel, by decide +kernel, by decide +kernel⟩
set_option maxRecDepth 20000 in
theorem i_Ma_tell : Cond.instanceMethod y_Ma_tell.1 ∈ xtb := xtbm (List.mem_of_getElem? (i := 580) rfl) rfl
set_option maxRecDepth 20000 in
theorem v_Ma_tell : Cond.selects y_Ma_tell.1.cls y_Ma_tell.1 y_Ma_tell.1 ∈ xtb := xtbm (List.mem_of_getElem? (i := 581) rfl) rfl
set_option maxRecDepth 20000 in
theorem z_DS_out : xZ y_DS_out 1 := ⟨xtbm (List.mem_of_getElem? (i := 83) rfl) rfl, xtbm (List.mem_of_getElem? (i := 586) rfl) rfl, by decide +kernel, by decide +kernel, by decide +kernel⟩
set_option maxRecDepth 20000 in
theorem i_DS_out : Cond.instanceMethod y_DS_out.1 ∈ xtb := xtbm (List.mem_of_getElem? (i := 584) rfl) rfl
set_option maxRecDepth 20000 in
theorem v_DS_out : Cond.selects y_DS_out.1.cls y_DS_out.1 y_DS_out.1 ∈ xtb := xtbm (List.mem_of_getElem? (i := 585) rfl) rfl
set_option maxRecDepth 20000 in
theorem z_Ma_sentAt : xZ y_Ma_sentAt 1 := ⟨xtbm (List.mem_of_getElem? (i := 89) rfl) rfl, xtbm (List.mem_of_getElem? (i := 590) rfl) rfl, by decide +kernel, by decide +kernel, by decide +kernel⟩
set_option maxRecDepth 20000 in
theorem i_Ma_sentAt : Cond.instanceMethod y_Ma_sentAt.1 ∈ xtb := xtbm (List.mem_of_getElem? (i := 588) rfl) rfl
set_option maxRecDepth 20000 in
theorem v_Ma_sentAt : Cond.selects y_Ma_sentAt.1.cls y_Ma_sentAt.1 y_Ma_sentAt.1 ∈ xtb := xtbm (List.mem_of_getElem? (i := 589) rfl) rfl
set_option maxRecDepth 20000 in
theorem z_DS_shrink : xZ y_DS_shrink 0 := ⟨xtbm (List.mem_of_getElem? (i := 83) rfl) rfl, xtbm (List.mem_of_getElem? (i := 596) rfl) rfl, by decide +kernel, by decide +kernel, by decide +kernel⟩
set_option maxRecDepth 20000 in
theorem i_DS_shrink : Cond.instanceMethod y_DS_shrink.1 ∈ xtb := xtbm (List.mem_of_getElem? (i := 594) rfl) rfl
set_option maxRecDepth 20000 in
theorem v_DS_shrink : Cond.selects y_DS_shrink.1.cls y_DS_shrink.1 y_DS_shrink.1 ∈ xtb := xtbm (List.mem_of_getElem? (i := 595) rfl) rfl
set_option maxRecDepth 20000 in
theorem z_Re_work : xZ y_Re_work 0 := ⟨xtbm (List.mem_of_getElem? (i := 85) rfl) rfl, xtbm (List.mem_of_getElem? (i := 600) rfl) rfl, by decide +kernel, by decide +kernel, by decide +kernel⟩
set_option maxRecDepth 20000 in
theorem i_Re_work : Cond.instanceMethod y_Re_work.1 ∈ xtb := xtbm (List.mem_of_getElem? (i := 598) rfl) rfl
set_option maxRecDepth 20000 in
theorem v_Re_work : Cond.selects y_Re_work.1.cls y_Re_work.1 y_Re_work.1 ∈ xtb := xtbm (List.mem_of_getElem? (i := 599) rfl) rfl
set_option maxRecDepth 20000 in
theorem z_Re_forget : xZ y_Re_forget 0 := ⟨xtbm (List.mem_of_getElem? (i := 85) rfl) rfl, xtbm (List.mem_of_getElem? (i := 604) rfl) rfl, by decide +kernel, by decide +kernel, by decide +kernel⟩
set_option maxRecDepth 20000 in
theorem i_Re_forget : Cond.instanceMethod y_Re_forget.1 ∈ xtb := xtbm (List.mem_of_getElem? (i := 603) rfl) rfl
set_option maxRecDepth 20000 in
theorem v_Re_forget : Cond.selects y_Re_forget.1.cls y_Re_forget.1 y_Re_forget.1 ∈ xtb := xtbm (List.mem_of_getElem? (i := 13) rfl) rfl
set_option maxRecDepth 20000 in
theorem z_Ch_forget : xZ y_Ch_forget 0 := ⟨xtbm (List.mem_of_getElem? (i := 86) rfl) rfl, xtbm (List.mem_of_getElem? (i := 608) rfl) rfl, by decide +kernel, by decide +kernel, by decide +kernel⟩
set_option maxRecDepth 20000 in
theorem i_Ch_forget : Cond.instanceMethod y_Ch_forget.1 ∈ xtb := xtbm (List.mem_of_getElem? (i := 606) rfl) rfl
set_option maxRecDepth 20000 in
theorem v_Ch_forget : Cond.selects y_Ch_forget.1.cls y_Ch_forget.1 y_Ch_forget.1 ∈ xtb := xtbm (List.mem_of_getElem? (i := 607) rfl) rfl
set_option maxRecDepth 20000 in
theorem z_JA_fill2 : xZ y_JA_fill2 2 := ⟨xtbm (List.mem_of_getElem? (i := 93) rfl) rfl, xtbm (List.mem_of_getElem? (i := 611) rfl) rfl, by decide +kernel, by decide +kernel, by decide +kernel⟩
set_option maxRecDepth 20000 in
theorem s_JA_fill2 : Cond.static y_JA_fill2.1 ∈ xtb := xtbm (List.mem_of_getElem? (i := 610) rfl) rfl
set_option maxRecDepth 20000 in
theorem z_Re_forgetStates : xZ y_Re_forgetStates 0 := ⟨xtbm (List.mem_of_getElem? (i := 85) rfl) rfl, xtbm (List.mem_of_getElem? (i := 615) rfl) rfl, by decide +kernel, by decide +kernel, by decide +kernel⟩
set_option maxRecDepth 20000 in
theorem i_Re_forgetStates : Cond.instanceMethod y_Re_forgetStates.1 ∈ xtb := xtbm (List.mem_of_getElem? (i := 614) rfl) rfl
set_option maxRecDepth 20000 in
theorem v_Re_forgetStates : Cond.selects y_Re_forgetStates.1.cls y_Re_forgetStates.1 y_Re_forgetStates.1 ∈ xtb := xtbm (List.mem_of_getElem? (i := 14) rfl) rfl
set_option maxRecDepth 20000 in
theorem z_Re_setAt : xZ y_Re_setAt 2 := ⟨xtbm (List.mem_of_getElem? (i := 85) rfl) rfl, xtbm (List.mem_of_getElem? (i := 618) rfl) rfl, by decide +kernel, by decide +kernel, by decide +kernel⟩
set_option maxRecDepth 20000 in
theorem s_Re_setAt : Cond.static y_Re_setAt.1 ∈ xtb := xtbm (List.mem_of_getElem? (i := 617) rfl) rfl
set_option maxRecDepth 20000 in
theorem z_JA_fill3 : xZ y_JA_fill3 4 := ⟨xtbm (List.mem_of_getElem? (i := 93) rfl) rfl, xtbm (List.mem_of_getElem? (i := 621) rfl) rfl, by decide +kernel, by decide +kernel, by decide +kernel⟩
set_option maxRecDepth 20000 in
theorem s_JA_fill3 : Cond.static y_JA_fill3.1 ∈ xtb := xtbm (List.mem_of_getElem? (i := 620) rfl) rfl
set_option maxRecDepth 20000 in
theorem z_Re_standAsTold : xZ y_Re_standAsTold 0 := ⟨xtbm (List.mem_of_getElem? (i := 85) rfl) rfl, xtbm (List.mem_of_getElem? (i := 630) rfl) rfl, by decide +kernel, by decide +kernel, by decide +kernel⟩
set_option maxRecDepth 20000 in
theorem i_Re_standAsTold : Cond.instanceMethod y_Re_standAsTold.1 ∈ xtb := xtbm (List.mem_of_getElem? (i := 629) rfl) rfl
set_option maxRecDepth 20000 in
theorem v_Re_standAsTold : Cond.selects y_Re_standAsTold.1.cls y_Re_standAsTold.1 y_Re_standAsTold.1 ∈ xtb := xtbm (List.mem_of_getElem? (i := 15) rfl) rfl
set_option maxRecDepth 20000 in
theorem z_Re_standAt : xZ y_Re_standAt 2 := ⟨xtbm (List.mem_of_getElem? (i := 85) rfl) rfl, xtbm (List.mem_of_getElem? (i := 633) rfl) rfl, by decide +kernel, by decide +kernel, by decide +kernel⟩
set_option maxRecDepth 20000 in
theorem s_Re_standAt : Cond.static y_Re_standAt.1 ∈ xtb := xtbm (List.mem_of_getElem? (i := 632) rfl) rfl
set_option maxRecDepth 20000 in
theorem z_OS_add : xZ y_OS_add 3 := ⟨xtbm (List.mem_of_getElem? (i := 94) rfl) rfl, xtbm (List.mem_of_getElem? (i := 636) rfl) rfl, by decide +kernel, by decide +kernel, by decide +kernel⟩
set_option maxRecDepth 20000 in
theorem s_OS_add : Cond.static y_OS_add.1 ∈ xtb := xtbm (List.mem_of_getElem? (i := 635) rfl) rfl
set_option maxRecDepth 20000 in
theorem z_Re_findSites : xZ y_Re_findSites 0 := ⟨xtbm (List.mem_of_getElem? (i := 85) rfl) rfl, xtbm (List.mem_of_getElem? (i := 640) rfl) rfl, by decide +kernel, by decide +kernel, by decide +kernel⟩
set_option maxRecDepth 20000 in
theorem i_Re_findSites : Cond.instanceMethod y_Re_findSites.1 ∈ xtb := xtbm (List.mem_of_getElem? (i := 639) rfl) rfl
set_option maxRecDepth 20000 in
theorem v_Re_findSites : Cond.selects y_Re_findSites.1.cls y_Re_findSites.1 y_Re_findSites.1 ∈ xtb := xtbm (List.mem_of_getElem? (i := 16) rfl) rfl
set_option maxRecDepth 20000 in
theorem z_Re_wakerOf : xZ y_Re_wakerOf 1 := ⟨xtbm (List.mem_of_getElem? (i := 85) rfl) rfl, xtbm (List.mem_of_getElem? (i := 644) rfl) rfl, by decide +kernel, by decide +kernel, by decide +kernel⟩
set_option maxRecDepth 20000 in
theorem i_Re_wakerOf : Cond.instanceMethod y_Re_wakerOf.1 ∈ xtb := xtbm (List.mem_of_getElem? (i := 643) rfl) rfl
set_option maxRecDepth 20000 in
theorem v_Re_wakerOf : Cond.selects y_Re_wakerOf.1.cls y_Re_wakerOf.1 y_Re_wakerOf.1 ∈ xtb := xtbm (List.mem_of_getElem? (i := 17) rfl) rfl
set_option maxRecDepth 20000 in
theorem z_Re_beginAtEntries : xZ y_Re_beginAtEntries 0 := ⟨xtbm (List.mem_of_getElem? (i := 85) rfl) rfl, xtbm (List.mem_of_getElem? (i := 648) rfl) rfl, by decide +kernel, by decide +kernel, by decide +kernel⟩
set_option maxRecDepth 20000 in
theorem i_Re_beginAtEntries : Cond.instanceMethod y_Re_beginAtEntries.1 ∈ xtb := xtbm (List.mem_of_getElem? (i := 647) rfl) rfl
set_option maxRecDepth 20000 in
theorem v_Re_beginAtEntries : Cond.selects y_Re_beginAtEntries.1.cls y_Re_beginAtEntries.1 y_Re_beginAtEntries.1 ∈ xtb := xtbm (List.mem_of_getElem? (i := 18) rfl) rfl
set_option maxRecDepth 20000 in
theorem z_OS_makeOnly : xZ y_OS_makeOnly 2 := ⟨xtbm (List.mem_of_getElem? (i := 94) rfl) rfl, xtbm (List.mem_of_getElem? (i := 651) rfl) rfl, by decide +kernel, by decide +kernel, by decide +kernel⟩
set_option maxRecDepth 20000 in
theorem s_OS_makeOnly : Cond.static y_OS_makeOnly.1 ∈ xtb := xtbm (List.mem_of_getElem? (i := 650) rfl) rfl
set_option maxRecDepth 20000 in
theorem z_Re_placeIn : xZ y_Re_placeIn 2 := ⟨xtbm (List.mem_of_getElem? (i := 85) rfl) rfl, xtbm (List.mem_of_getElem? (i := 657) rfl) rfl, by decide +kernel, by decide +kernel, by decide +kernel⟩
set_option maxRecDepth 20000 in
theorem i_Re_placeIn : Cond.instanceMethod y_Re_placeIn.1 ∈ xtb := xtbm (List.mem_of_getElem? (i := 656) rfl) rfl
set_option maxRecDepth 20000 in
theorem v_Re_placeIn : Cond.selects y_Re_placeIn.1.cls y_Re_placeIn.1 y_Re_placeIn.1 ∈ xtb := xtbm (List.mem_of_getElem? (i := 19) rfl) rfl
set_option maxRecDepth 20000 in
theorem z_Re_slotOf : xZ y_Re_slotOf 2 := ⟨xtbm (List.mem_of_getElem? (i := 85) rfl) rfl, xtbm (List.mem_of_getElem? (i := 660) rfl) rfl, by decide +kernel, by decide +kernel, by decide +kernel⟩
set_option maxRecDepth 20000 in
theorem s_Re_slotOf : Cond.static y_Re_slotOf.1 ∈ xtb := xtbm (List.mem_of_getElem? (i := 659) rfl) rfl
set_option maxRecDepth 20000 in
theorem z_OS_join : xZ y_OS_join 4 := ⟨xtbm (List.mem_of_getElem? (i := 94) rfl) rfl, xtbm (List.mem_of_getElem? (i := 663) rfl) rfl, by decide +kernel, by decide +kernel, by decide +kernel⟩
set_option maxRecDepth 20000 in
theorem s_OS_join : Cond.static y_OS_join.1 ∈ xtb := xtbm (List.mem_of_getElem? (i := 662) rfl) rfl
set_option maxRecDepth 20000 in
theorem z_Re_arriveAt : xZ y_Re_arriveAt 2 := ⟨xtbm (List.mem_of_getElem? (i := 85) rfl) rfl, xtbm (List.mem_of_getElem? (i := 668) rfl) rfl, by decide +kernel, by decide +kernel, by decide +kernel⟩
set_option maxRecDepth 20000 in
theorem i_Re_arriveAt : Cond.instanceMethod y_Re_arriveAt.1 ∈ xtb := xtbm (List.mem_of_getElem? (i := 667) rfl) rfl
set_option maxRecDepth 20000 in
theorem v_Re_arriveAt : Cond.selects y_Re_arriveAt.1.cls y_Re_arriveAt.1 y_Re_arriveAt.1 ∈ xtb := xtbm (List.mem_of_getElem? (i := 20) rfl) rfl
set_option maxRecDepth 20000 in
theorem z_Re_goRound : xZ y_Re_goRound 0 := ⟨xtbm (List.mem_of_getElem? (i := 85) rfl) rfl, xtbm (List.mem_of_getElem? (i := 673) rfl) rfl, by decide +kernel, by decide +kernel, by decide +kernel⟩
set_option maxRecDepth 20000 in
theorem i_Re_goRound : Cond.instanceMethod y_Re_goRound.1 ∈ xtb := xtbm (List.mem_of_getElem? (i := 672) rfl) rfl
set_option maxRecDepth 20000 in
theorem v_Re_goRound : Cond.selects y_Re_goRound.1.cls y_Re_goRound.1 y_Re_goRound.1 ∈ xtb := xtbm (List.mem_of_getElem? (i := 21) rfl) rfl
set_option maxRecDepth 20000 in
theorem z_JL_numberOfTrailingZeros : xZ y_JL_numberOfTrailingZeros 1 := ⟨xtbm (List.mem_of_getElem? (i := 95) rfl) rfl, xtbm (List.mem_of_getElem? (i := 676) rfl) rfl, by decide +kernel, by decide +kernel, by decide +kernel⟩
set_option maxRecDepth 20000 in
theorem s_JL_numberOfTrailingZeros : Cond.static y_JL_numberOfTrailingZeros.1 ∈ xtb := xtbm (List.mem_of_getElem? (i := 675) rfl) rfl
set_option maxRecDepth 20000 in
theorem z_JI_numberOfTrailingZeros : xZ y_JI_numberOfTrailingZeros 1 := ⟨xtbm (List.mem_of_getElem? (i := 96) rfl) rfl, xtbm (List.mem_of_getElem? (i := 679) rfl) rfl, by decide +kernel, by decide +kernel, by decide +kernel⟩
set_option maxRecDepth 20000 in
theorem s_JI_numberOfTrailingZeros : Cond.static y_JI_numberOfTrailingZeros.1 ∈ xtb := xtbm (List.mem_of_getElem? (i := 678) rfl) rfl
set_option maxRecDepth 20000 in
theorem z_Re_takeOn : xZ y_Re_takeOn 2 := ⟨xtbm (List.mem_of_getElem? (i := 85) rfl) rfl, xtbm (List.mem_of_getElem? (i := 685) rfl) rfl, by decide +kernel, by decide +kernel, by decide +kernel⟩
set_option maxRecDepth 20000 in
theorem i_Re_takeOn : Cond.instanceMethod y_Re_takeOn.1 ∈ xtb := xtbm (List.mem_of_getElem? (i := 684) rfl) rfl
set_option maxRecDepth 20000 in
theorem v_Re_takeOn : Cond.selects y_Re_takeOn.1.cls y_Re_takeOn.1 y_Re_takeOn.1 ∈ xtb := xtbm (List.mem_of_getElem? (i := 22) rfl) rfl
set_option maxRecDepth 20000 in
theorem z_Re_wake : xZ y_Re_wake 1 := ⟨xtbm (List.mem_of_getElem? (i := 85) rfl) rfl, xtbm (List.mem_of_getElem? (i := 689) rfl) rfl, by decide +kernel, by decide +kernel, by decide +kernel⟩
set_option maxRecDepth 20000 in
theorem i_Re_wake : Cond.instanceMethod y_Re_wake.1 ∈ xtb := xtbm (List.mem_of_getElem? (i := 688) rfl) rfl
set_option maxRecDepth 20000 in
theorem v_Re_wake : Cond.selects y_Re_wake.1.cls y_Re_wake.1 y_Re_wake.1 ∈ xtb := xtbm (List.mem_of_getElem? (i := 23) rfl) rfl
set_option maxRecDepth 20000 in
theorem z_Re_takeStore : xZ y_Re_takeStore 4 := ⟨xtbm (List.mem_of_getElem? (i := 85) rfl) rfl, xtbm (List.mem_of_getElem? (i := 693) rfl) rfl, by decide +kernel, by decide +kernel, by decide +kernel⟩
set_option maxRecDepth 20000 in
theorem i_Re_takeStore : Cond.instanceMethod y_Re_takeStore.1 ∈ xtb := xtbm (List.mem_of_getElem? (i := 692) rfl) rfl
set_option maxRecDepth 20000 in
theorem v_Re_takeStore : Cond.selects y_Re_takeStore.1.cls y_Re_takeStore.1 y_Re_takeStore.1 ∈ xtb := xtbm (List.mem_of_getElem? (i := 24) rfl) rfl
set_option maxRecDepth 20000 in
theorem z_Re_placesIn : xZ y_Re_placesIn 2 := ⟨xtbm (List.mem_of_getElem? (i := 85) rfl) rfl, xtbm (List.mem_of_getElem? (i := 697) rfl) rfl, by decide +kernel, by decide +kernel, by decide +kernel⟩
set_option maxRecDepth 20000 in
theorem i_Re_placesIn : Cond.instanceMethod y_Re_placesIn.1 ∈ xtb := xtbm (List.mem_of_getElem? (i := 696) rfl) rfl
set_option maxRecDepth 20000 in
theorem v_Re_placesIn : Cond.selects y_Re_placesIn.1.cls y_Re_placesIn.1 y_Re_placesIn.1 ∈ xtb := xtbm (List.mem_of_getElem? (i := 25) rfl) rfl
set_option maxRecDepth 20000 in
theorem z_Pr_placesOf : xZ y_Pr_placesOf 1 := ⟨xtbm (List.mem_of_getElem? (i := 84) rfl) rfl, xtbm (List.mem_of_getElem? (i := 701) rfl) rfl, by decide +kernel, by decide +kernel, by decide +kernel⟩
set_option maxRecDepth 20000 in
theorem i_Pr_placesOf : Cond.instanceMethod y_Pr_placesOf.1 ∈ xtb := xtbm (List.mem_of_getElem? (i := 699) rfl) rfl
set_option maxRecDepth 20000 in
theorem v_Pr_placesOf : Cond.selects y_Pr_placesOf.1.cls y_Pr_placesOf.1 y_Pr_placesOf.1 ∈ xtb := xtbm (List.mem_of_getElem? (i := 700) rfl) rfl
set_option maxRecDepth 20000 in
theorem z_Re_flow : xZ y_Re_flow 4 := ⟨xtbm (List.mem_of_getElem? (i := 85) rfl) rfl, xtbm (List.mem_of_getElem? (i := 705) rfl) rfl, by decide +kernel, by decide +kernel, by decide +kernel⟩
set_option maxRecDepth 20000 in
theorem i_Re_flow : Cond.instanceMethod y_Re_flow.1 ∈ xtb := xtbm (List.mem_of_getElem? (i := 704) rfl) rfl
set_option maxRecDepth 20000 in
theorem v_Re_flow : Cond.selects y_Re_flow.1.cls y_Re_flow.1 y_Re_flow.1 ∈ xtb := xtbm (List.mem_of_getElem? (i := 26) rfl) rfl
set_option maxRecDepth 20000 in
theorem z_Re_takeCall : xZ y_Re_takeCall 3 := ⟨xtbm (List.mem_of_getElem? (i := 85) rfl) rfl, xtbm (List.mem_of_getElem? (i := 709) rfl) rfl, by decide +kernel, by decide +kernel, by decide +kernel⟩
set_option maxRecDepth 20000 in
theorem i_Re_takeCall : Cond.instanceMethod y_Re_takeCall.1 ∈ xtb := xtbm (List.mem_of_getElem? (i := 708) rfl) rfl
set_option maxRecDepth 20000 in
theorem v_Re_takeCall : Cond.selects y_Re_takeCall.1.cls y_Re_takeCall.1 y_Re_takeCall.1 ∈ xtb := xtbm (List.mem_of_getElem? (i := 27) rfl) rfl
set_option maxRecDepth 20000 in
theorem z_Ch_link : xZ y_Ch_link 2 := ⟨xtbm (List.mem_of_getElem? (i := 86) rfl) rfl, xtbm (List.mem_of_getElem? (i := 713) rfl) rfl, by decide +kernel, by decide +kernel, by decide +kernel⟩
set_option maxRecDepth 20000 in
theorem i_Ch_link : Cond.instanceMethod y_Ch_link.1 ∈ xtb := xtbm (List.mem_of_getElem? (i := 711) rfl) rfl
set_option maxRecDepth 20000 in
theorem v_Ch_link : Cond.selects y_Ch_link.1.cls y_Ch_link.1 y_Ch_link.1 ∈ xtb := xtbm (List.mem_of_getElem? (i := 712) rfl) rfl
set_option maxRecDepth 20000 in
theorem z_Re_takeNought : xZ y_Re_takeNought 4 := ⟨xtbm (List.mem_of_getElem? (i := 85) rfl) rfl, xtbm (List.mem_of_getElem? (i := 717) rfl) rfl, by decide +kernel, by decide +kernel, by decide +kernel⟩
set_option maxRecDepth 20000 in
theorem i_Re_takeNought : Cond.instanceMethod y_Re_takeNought.1 ∈ xtb := xtbm (List.mem_of_getElem? (i := 716) rfl) rfl
set_option maxRecDepth 20000 in
theorem v_Re_takeNought : Cond.selects y_Re_takeNought.1.cls y_Re_takeNought.1 y_Re_takeNought.1 ∈ xtb := xtbm (List.mem_of_getElem? (i := 28) rfl) rfl
set_option maxRecDepth 20000 in
theorem z_Re_makeRest : xZ y_Re_makeRest 2 := ⟨xtbm (List.mem_of_getElem? (i := 85) rfl) rfl, xtbm (List.mem_of_getElem? (i := 721) rfl) rfl, by decide +kernel, by decide +kernel, by decide +kernel⟩
set_option maxRecDepth 20000 in
theorem i_Re_makeRest : Cond.instanceMethod y_Re_makeRest.1 ∈ xtb := xtbm (List.mem_of_getElem? (i := 720) rfl) rfl
set_option maxRecDepth 20000 in
theorem v_Re_makeRest : Cond.selects y_Re_makeRest.1.cls y_Re_makeRest.1 y_Re_makeRest.1 ∈ xtb := xtbm (List.mem_of_getElem? (i := 29) rfl) rfl
set_option maxRecDepth 20000 in
theorem z_OS_isEmpty : xZ y_OS_isEmpty 1 := ⟨xtbm (List.mem_of_getElem? (i := 94) rfl) rfl, xtbm (List.mem_of_getElem? (i := 725) rfl) rfl, by decide +kernel, by decide +kernel, by decide +kernel⟩
set_option maxRecDepth 20000 in
theorem s_OS_isEmpty : Cond.static y_OS_isEmpty.1 ∈ xtb := xtbm (List.mem_of_getElem? (i := 724) rfl) rfl
set_option maxRecDepth 20000 in
theorem z_Re_takeLoad : xZ y_Re_takeLoad 4 := ⟨xtbm (List.mem_of_getElem? (i := 85) rfl) rfl, xtbm (List.mem_of_getElem? (i := 729) rfl) rfl, by decide +kernel, by decide +kernel, by decide +kernel⟩
set_option maxRecDepth 20000 in
theorem i_Re_takeLoad : Cond.instanceMethod y_Re_takeLoad.1 ∈ xtb := xtbm (List.mem_of_getElem? (i := 728) rfl) rfl
set_option maxRecDepth 20000 in
theorem v_Re_takeLoad : Cond.selects y_Re_takeLoad.1.cls y_Re_takeLoad.1 y_Re_takeLoad.1 ∈ xtb := xtbm (List.mem_of_getElem? (i := 30) rfl) rfl
set_option maxRecDepth 20000 in
theorem z_Re_takeFollow : xZ y_Re_takeFollow 4 := ⟨xtbm (List.mem_of_getElem? (i := 85) rfl) rfl, xtbm (List.mem_of_getElem? (i := 733) rfl) rfl, by decide +kernel, by decide +kernel, by decide +kernel⟩
set_option maxRecDepth 20000 in
theorem i_Re_takeFollow : Cond.instanceMethod y_Re_takeFollow.1 ∈ xtb := xtbm (List.mem_of_getElem? (i := 732) rfl) rfl
set_option maxRecDepth 20000 in
theorem v_Re_takeFollow : Cond.selects y_Re_takeFollow.1.cls y_Re_takeFollow.1 y_Re_takeFollow.1 ∈ xtb := xtbm (List.mem_of_getElem? (i := 31) rfl) rfl
set_option maxRecDepth 20000 in
theorem z_Re_makeSimple : xZ y_Re_makeSimple 2 := ⟨xtbm (List.mem_of_getElem? (i := 85) rfl) rfl, xtbm (List.mem_of_getElem? (i := 737) rfl) rfl, by decide +kernel, by decide +kernel, by decide +kernel⟩
set_option maxRecDepth 20000 in
theorem i_Re_makeSimple : Cond.instanceMethod y_Re_makeSimple.1 ∈ xtb := xtbm (List.mem_of_getElem? (i := 736) rfl) rfl
set_option maxRecDepth 20000 in
theorem v_Re_makeSimple : Cond.selects y_Re_makeSimple.1.cls y_Re_makeSimple.1 y_Re_makeSimple.1 ∈ xtb := xtbm (List.mem_of_getElem? (i := 32) rfl) rfl
set_option maxRecDepth 20000 in
theorem z_OS_makeSums : xZ y_OS_makeSums 4 := ⟨xtbm (List.mem_of_getElem? (i := 94) rfl) rfl, xtbm (List.mem_of_getElem? (i := 740) rfl) rfl, by decide +kernel, by decide +kernel, by decide +kernel⟩
set_option maxRecDepth 20000 in
theorem s_OS_makeSums : Cond.static y_OS_makeSums.1 ∈ xtb := xtbm (List.mem_of_getElem? (i := 739) rfl) rfl
set_option maxRecDepth 20000 in
theorem z_OS_makeMasked : xZ y_OS_makeMasked 4 := ⟨xtbm (List.mem_of_getElem? (i := 94) rfl) rfl, xtbm (List.mem_of_getElem? (i := 744) rfl) rfl, by decide +kernel, by decide +kernel, by decide +kernel⟩
set_option maxRecDepth 20000 in
theorem s_OS_makeMasked : Cond.static y_OS_makeMasked.1 ∈ xtb := xtbm (List.mem_of_getElem? (i := 743) rfl) rfl
set_option maxRecDepth 20000 in
theorem z_OS_foldWords : xZ y_OS_foldWords 2 := ⟨xtbm (List.mem_of_getElem? (i := 94) rfl) rfl, xtbm (List.mem_of_getElem? (i := 750) rfl) rfl, by decide +kernel, by decide +kernel, by decide +kernel⟩
set_option maxRecDepth 20000 in
theorem s_OS_foldWords : Cond.static y_OS_foldWords.1 ∈ xtb := xtbm (List.mem_of_getElem? (i := 749) rfl) rfl
set_option maxRecDepth 20000 in
theorem z_OS_moveWord : xZ y_OS_moveWord 3 := ⟨xtbm (List.mem_of_getElem? (i := 94) rfl) rfl, xtbm (List.mem_of_getElem? (i := 753) rfl) rfl, by decide +kernel, by decide +kernel, by decide +kernel⟩
set_option maxRecDepth 20000 in
theorem s_OS_moveWord : Cond.static y_OS_moveWord.1 ∈ xtb := xtbm (List.mem_of_getElem? (i := 752) rfl) rfl
set_option maxRecDepth 20000 in
theorem z_Re_takeSame : xZ y_Re_takeSame 2 := ⟨xtbm (List.mem_of_getElem? (i := 85) rfl) rfl, xtbm (List.mem_of_getElem? (i := 757) rfl) rfl, by decide +kernel, by decide +kernel, by decide +kernel⟩
set_option maxRecDepth 20000 in
theorem i_Re_takeSame : Cond.instanceMethod y_Re_takeSame.1 ∈ xtb := xtbm (List.mem_of_getElem? (i := 756) rfl) rfl
set_option maxRecDepth 20000 in
theorem v_Re_takeSame : Cond.selects y_Re_takeSame.1.cls y_Re_takeSame.1 y_Re_takeSame.1 ∈ xtb := xtbm (List.mem_of_getElem? (i := 33) rfl) rfl
set_option maxRecDepth 20000 in
theorem z_Ch_measure : xZ y_Ch_measure 1 := ⟨xtbm (List.mem_of_getElem? (i := 86) rfl) rfl, xtbm (List.mem_of_getElem? (i := 762) rfl) rfl, by decide +kernel, by decide +kernel, by decide +kernel⟩
set_option maxRecDepth 20000 in
theorem i_Ch_measure : Cond.instanceMethod y_Ch_measure.1 ∈ xtb := xtbm (List.mem_of_getElem? (i := 760) rfl) rfl
set_option maxRecDepth 20000 in
theorem v_Ch_measure : Cond.selects y_Ch_measure.1.cls y_Ch_measure.1 y_Ch_measure.1 ∈ xtb := xtbm (List.mem_of_getElem? (i := 761) rfl) rfl
set_option maxRecDepth 20000 in
theorem z_Ch_stepOn : xZ y_Ch_stepOn 2 := ⟨xtbm (List.mem_of_getElem? (i := 86) rfl) rfl, xtbm (List.mem_of_getElem? (i := 767) rfl) rfl, by decide +kernel, by decide +kernel, by decide +kernel⟩
set_option maxRecDepth 20000 in
theorem i_Ch_stepOn : Cond.instanceMethod y_Ch_stepOn.1 ∈ xtb := xtbm (List.mem_of_getElem? (i := 766) rfl) rfl
set_option maxRecDepth 20000 in
theorem v_Ch_stepOn : Cond.selects y_Ch_stepOn.1.cls y_Ch_stepOn.1 y_Ch_stepOn.1 ∈ xtb := xtbm (List.mem_of_getElem? (i := 34) rfl) rfl
set_option maxRecDepth 20000 in
theorem z_La_work : xZ y_La_work 0 := ⟨xtbm (List.mem_of_getElem? (i := 87) rfl) rfl, xtbm (List.mem_of_getElem? (i := 772) rfl) rfl, by decide +kernel, by decide +kernel, by decide +kernel⟩
set_option maxRecDepth 20000 in
theorem i_La_work : Cond.instanceMethod y_La_work.1 ∈ xtb := xtbm (List.mem_of_getElem? (i := 770) rfl) rfl
set_option maxRecDepth 20000 in
theorem v_La_work : Cond.selects y_La_work.1.cls y_La_work.1 y_La_work.1 ∈ xtb := xtbm (List.mem_of_getElem? (i := 771) rfl) rfl
set_option maxRecDepth 20000 in
theorem z_La_begin : xZ y_La_begin 0 := ⟨xtbm (List.mem_of_getElem? (i := 87) rfl) rfl, xtbm (List.mem_of_getElem? (i := 776) rfl) rfl, by decide +kernel, by decide +kernel, by decide +kernel⟩
set_option maxRecDepth 20000 in
theorem i_La_begin : Cond.instanceMethod y_La_begin.1 ∈ xtb := xtbm (List.mem_of_getElem? (i := 775) rfl) rfl
set_option maxRecDepth 20000 in
theorem v_La_begin : Cond.selects y_La_begin.1.cls y_La_begin.1 y_La_begin.1 ∈ xtb := xtbm (List.mem_of_getElem? (i := 35) rfl) rfl
set_option maxRecDepth 20000 in
theorem z_La_keepItems : xZ y_La_keepItems 0 := ⟨xtbm (List.mem_of_getElem? (i := 87) rfl) rfl, xtbm (List.mem_of_getElem? (i := 782) rfl) rfl, by decide +kernel, by decide +kernel, by decide +kernel⟩
set_option maxRecDepth 20000 in
theorem i_La_keepItems : Cond.instanceMethod y_La_keepItems.1 ∈ xtb := xtbm (List.mem_of_getElem? (i := 781) rfl) rfl
set_option maxRecDepth 20000 in
theorem v_La_keepItems : Cond.selects y_La_keepItems.1.cls y_La_keepItems.1 y_La_keepItems.1 ∈ xtb := xtbm (List.mem_of_getElem? (i := 36) rfl) rfl
set_option maxRecDepth 20000 in
theorem z_La_keepGroups : xZ y_La_keepGroups 0 := ⟨xtbm (List.mem_of_getElem? (i := 87) rfl) rfl, xtbm (List.mem_of_getElem? (i := 786) rfl) rfl, by decide +kernel, by decide +kernel, by decide +kernel⟩
set_option maxRecDepth 20000 in
theorem i_La_keepGroups : Cond.instanceMethod y_La_keepGroups.1 ∈ xtb := xtbm (List.mem_of_getElem? (i := 785) rfl) rfl
set_option maxRecDepth 20000 in
theorem v_La_keepGroups : Cond.selects y_La_keepGroups.1.cls y_La_keepGroups.1 y_La_keepGroups.1 ∈ xtb := xtbm (List.mem_of_getElem? (i := 37) rfl) rfl
set_option maxRecDepth 20000 in
theorem z_La_findStill : xZ y_La_findStill 0 := ⟨xtbm (List.mem_of_getElem? (i := 87) rfl) rfl, xtbm (List.mem_of_getElem? (i := 790) rfl) rfl, by decide +kernel, by decide +kernel, by decide +kernel⟩
set_option maxRecDepth 20000 in
theorem i_La_findStill : Cond.instanceMethod y_La_findStill.1 ∈ xtb := xtbm (List.mem_of_getElem? (i := 789) rfl) rfl
set_option maxRecDepth 20000 in
theorem v_La_findStill : Cond.selects y_La_findStill.1.cls y_La_findStill.1 y_La_findStill.1 ∈ xtb := xtbm (List.mem_of_getElem? (i := 38) rfl) rfl
set_option maxRecDepth 20000 in
theorem z_La_joinAlike : xZ y_La_joinAlike 0 := ⟨xtbm (List.mem_of_getElem? (i := 87) rfl) rfl, xtbm (List.mem_of_getElem? (i := 794) rfl) rfl, by decide +kernel, by decide +kernel, by decide +kernel⟩
set_option maxRecDepth 20000 in
theorem i_La_joinAlike : Cond.instanceMethod y_La_joinAlike.1 ∈ xtb := xtbm (List.mem_of_getElem? (i := 793) rfl) rfl
set_option maxRecDepth 20000 in
theorem v_La_joinAlike : Cond.selects y_La_joinAlike.1.cls y_La_joinAlike.1 y_La_joinAlike.1 ∈ xtb := xtbm (List.mem_of_getElem? (i := 39) rfl) rfl
set_option maxRecDepth 20000 in
theorem z_La_standsStill : xZ y_La_standsStill 1 := ⟨xtbm (List.mem_of_getElem? (i := 87) rfl) rfl, xtbm (List.mem_of_getElem? (i := 798) rfl) rfl, by decide +kernel, by decide +kernel, by decide +kernel⟩
set_option maxRecDepth 20000 in
theorem i_La_standsStill : Cond.instanceMethod y_La_standsStill.1 ∈ xtb := xtbm (List.mem_of_getElem? (i := 797) rfl) rfl
set_option maxRecDepth 20000 in
theorem v_La_standsStill : Cond.selects y_La_standsStill.1.cls y_La_standsStill.1 y_La_standsStill.1 ∈ xtb := xtbm (List.mem_of_getElem? (i := 40) rfl) rfl
set_option maxRecDepth 20000 in
theorem z_La_endsWith : xZ y_La_endsWith 2 := ⟨xtbm (List.mem_of_getElem? (i := 87) rfl) rfl, xtbm (List.mem_of_getElem? (i := 802) rfl) rfl, by decide +kernel, by decide +kernel, by decide +kernel⟩
set_option maxRecDepth 20000 in
theorem i_La_endsWith : Cond.instanceMethod y_La_endsWith.1 ∈ xtb := xtbm (List.mem_of_getElem? (i := 801) rfl) rfl
set_option maxRecDepth 20000 in
theorem v_La_endsWith : Cond.selects y_La_endsWith.1.cls y_La_endsWith.1 y_La_endsWith.1 ∈ xtb := xtbm (List.mem_of_getElem? (i := 41) rfl) rfl
set_option maxRecDepth 20000 in
theorem z_JM_max : xZ y_JM_max 2 := ⟨xtbm (List.mem_of_getElem? (i := 91) rfl) rfl, xtbm (List.mem_of_getElem? (i := 805) rfl) rfl, by decide +kernel, by decide +kernel, by decide +kernel⟩
set_option maxRecDepth 20000 in
theorem s_JM_max : Cond.static y_JM_max.1 ∈ xtb := xtbm (List.mem_of_getElem? (i := 804) rfl) rfl
set_option maxRecDepth 20000 in
theorem z_La_layTails : xZ y_La_layTails 0 := ⟨xtbm (List.mem_of_getElem? (i := 87) rfl) rfl, xtbm (List.mem_of_getElem? (i := 809) rfl) rfl, by decide +kernel, by decide +kernel, by decide +kernel⟩
set_option maxRecDepth 20000 in
theorem i_La_layTails : Cond.instanceMethod y_La_layTails.1 ∈ xtb := xtbm (List.mem_of_getElem? (i := 808) rfl) rfl
set_option maxRecDepth 20000 in
theorem v_La_layTails : Cond.selects y_La_layTails.1.cls y_La_layTails.1 y_La_layTails.1 ∈ xtb := xtbm (List.mem_of_getElem? (i := 42) rfl) rfl
set_option maxRecDepth 20000 in
theorem z_La_holdsAny : xZ y_La_holdsAny 1 := ⟨xtbm (List.mem_of_getElem? (i := 87) rfl) rfl, xtbm (List.mem_of_getElem? (i := 813) rfl) rfl, by decide +kernel, by decide +kernel, by decide +kernel⟩
set_option maxRecDepth 20000 in
theorem i_La_holdsAny : Cond.instanceMethod y_La_holdsAny.1 ∈ xtb := xtbm (List.mem_of_getElem? (i := 812) rfl) rfl
set_option maxRecDepth 20000 in
theorem v_La_holdsAny : Cond.selects y_La_holdsAny.1.cls y_La_holdsAny.1 y_La_holdsAny.1 ∈ xtb := xtbm (List.mem_of_getElem? (i := 43) rfl) rfl
set_option maxRecDepth 20000 in
theorem z_La_findOuter : xZ y_La_findOuter 1 := ⟨xtbm (List.mem_of_getElem? (i := 87) rfl) rfl, xtbm (List.mem_of_getElem? (i := 817) rfl) rfl, by decide +kernel, by decide +kernel, by decide +kernel⟩
set_option maxRecDepth 20000 in
theorem i_La_findOuter : Cond.instanceMethod y_La_findOuter.1 ∈ xtb := xtbm (List.mem_of_getElem? (i := 816) rfl) rfl
set_option maxRecDepth 20000 in
theorem v_La_findOuter : Cond.selects y_La_findOuter.1.cls y_La_findOuter.1 y_La_findOuter.1 ∈ xtb := xtbm (List.mem_of_getElem? (i := 44) rfl) rfl
set_option maxRecDepth 20000 in
theorem z_La_fitsAlign : xZ y_La_fitsAlign 2 := ⟨xtbm (List.mem_of_getElem? (i := 87) rfl) rfl, xtbm (List.mem_of_getElem? (i := 821) rfl) rfl, by decide +kernel, by decide +kernel, by decide +kernel⟩
set_option maxRecDepth 20000 in
theorem i_La_fitsAlign : Cond.instanceMethod y_La_fitsAlign.1 ∈ xtb := xtbm (List.mem_of_getElem? (i := 820) rfl) rfl
set_option maxRecDepth 20000 in
theorem v_La_fitsAlign : Cond.selects y_La_fitsAlign.1.cls y_La_fitsAlign.1 y_La_fitsAlign.1 ∈ xtb := xtbm (List.mem_of_getElem? (i := 45) rfl) rfl
set_option maxRecDepth 20000 in
theorem z_La_listBlocks : xZ y_La_listBlocks 0 := ⟨xtbm (List.mem_of_getElem? (i := 87) rfl) rfl, xtbm (List.mem_of_getElem? (i := 825) rfl) rfl, by decide +kernel, by decide +kernel, by decide +kernel⟩
set_option maxRecDepth 20000 in
theorem i_La_listBlocks : Cond.instanceMethod y_La_listBlocks.1 ∈ xtb := xtbm (List.mem_of_getElem? (i := 824) rfl) rfl
set_option maxRecDepth 20000 in
theorem v_La_listBlocks : Cond.selects y_La_listBlocks.1.cls y_La_listBlocks.1 y_La_listBlocks.1 ∈ xtb := xtbm (List.mem_of_getElem? (i := 46) rfl) rfl
set_option maxRecDepth 20000 in
theorem z_La_holderOf : xZ y_La_holderOf 1 := ⟨xtbm (List.mem_of_getElem? (i := 87) rfl) rfl, xtbm (List.mem_of_getElem? (i := 829) rfl) rfl, by decide +kernel, by decide +kernel, by decide +kernel⟩
set_option maxRecDepth 20000 in
theorem i_La_holderOf : Cond.instanceMethod y_La_holderOf.1 ∈ xtb := xtbm (List.mem_of_getElem? (i := 827) rfl) rfl
set_option maxRecDepth 20000 in
theorem v_La_holderOf : Cond.selects y_La_holderOf.1.cls y_La_holderOf.1 y_La_holderOf.1 ∈ xtb := xtbm (List.mem_of_getElem? (i := 828) rfl) rfl
set_option maxRecDepth 20000 in
theorem z_BO_arrange : xZ y_BO_arrange 4 := ⟨xtbm (List.mem_of_getElem? (i := 88) rfl) rfl, xtbm (List.mem_of_getElem? (i := 833) rfl) rfl, by decide +kernel, by decide +kernel, by decide +kernel⟩
set_option maxRecDepth 20000 in
theorem i_BO_arrange : Cond.instanceMethod y_BO_arrange.1 ∈ xtb := xtbm (List.mem_of_getElem? (i := 831) rfl) rfl
set_option maxRecDepth 20000 in
theorem v_BO_arrange : Cond.selects y_BO_arrange.1.cls y_BO_arrange.1 y_BO_arrange.1 ∈ xtb := xtbm (List.mem_of_getElem? (i := 832) rfl) rfl
set_option maxRecDepth 20000 in
theorem z_BO_measure : xZ y_BO_measure 3 := ⟨xtbm (List.mem_of_getElem? (i := 88) rfl) rfl, xtbm (List.mem_of_getElem? (i := 838) rfl) rfl, by decide +kernel, by decide +kernel, by decide +kernel⟩
set_option maxRecDepth 20000 in
theorem i_BO_measure : Cond.instanceMethod y_BO_measure.1 ∈ xtb := xtbm (List.mem_of_getElem? (i := 837) rfl) rfl
set_option maxRecDepth 20000 in
theorem v_BO_measure : Cond.selects y_BO_measure.1.cls y_BO_measure.1 y_BO_measure.1 ∈ xtb := xtbm (List.mem_of_getElem? (i := 47) rfl) rfl
set_option maxRecDepth 20000 in
theorem z_BO_need : xZ y_BO_need 5 := ⟨xtbm (List.mem_of_getElem? (i := 88) rfl) rfl, xtbm (List.mem_of_getElem? (i := 843) rfl) rfl, by decide +kernel, by decide +kernel, by decide +kernel⟩
set_option maxRecDepth 20000 in
theorem i_BO_need : Cond.instanceMethod y_BO_need.1 ∈ xtb := xtbm (List.mem_of_getElem? (i := 842) rfl) rfl
set_option maxRecDepth 20000 in
theorem v_BO_need : Cond.selects y_BO_need.1.cls y_BO_need.1 y_BO_need.1 ∈ xtb := xtbm (List.mem_of_getElem? (i := 48) rfl) rfl
set_option maxRecDepth 20000 in
theorem z_BO_gap : xZ y_BO_gap 2 := ⟨xtbm (List.mem_of_getElem? (i := 88) rfl) rfl, xtbm (List.mem_of_getElem? (i := 846) rfl) rfl, by decide +kernel, by decide +kernel, by decide +kernel⟩
set_option maxRecDepth 20000 in
theorem s_BO_gap : Cond.static y_BO_gap.1 ∈ xtb := xtbm (List.mem_of_getElem? (i := 845) rfl) rfl
set_option maxRecDepth 20000 in
theorem z_BO_choose : xZ y_BO_choose 5 := ⟨xtbm (List.mem_of_getElem? (i := 88) rfl) rfl, xtbm (List.mem_of_getElem? (i := 851) rfl) rfl, by decide +kernel, by decide +kernel, by decide +kernel⟩
set_option maxRecDepth 20000 in
theorem i_BO_choose : Cond.instanceMethod y_BO_choose.1 ∈ xtb := xtbm (List.mem_of_getElem? (i := 850) rfl) rfl
set_option maxRecDepth 20000 in
theorem v_BO_choose : Cond.selects y_BO_choose.1.cls y_BO_choose.1 y_BO_choose.1 ∈ xtb := xtbm (List.mem_of_getElem? (i := 49) rfl) rfl
set_option maxRecDepth 20000 in
theorem z_La_placeBlocks : xZ y_La_placeBlocks 0 := ⟨xtbm (List.mem_of_getElem? (i := 87) rfl) rfl, xtbm (List.mem_of_getElem? (i := 855) rfl) rfl, by decide +kernel, by decide +kernel, by decide +kernel⟩
set_option maxRecDepth 20000 in
theorem i_La_placeBlocks : Cond.instanceMethod y_La_placeBlocks.1 ∈ xtb := xtbm (List.mem_of_getElem? (i := 854) rfl) rfl
set_option maxRecDepth 20000 in
theorem v_La_placeBlocks : Cond.selects y_La_placeBlocks.1.cls y_La_placeBlocks.1 y_La_placeBlocks.1 ∈ xtb := xtbm (List.mem_of_getElem? (i := 50) rfl) rfl
set_option maxRecDepth 20000 in
theorem z_La_placeOthers : xZ y_La_placeOthers 0 := ⟨xtbm (List.mem_of_getElem? (i := 87) rfl) rfl, xtbm (List.mem_of_getElem? (i := 860) rfl) rfl, by decide +kernel, by decide +kernel, by decide +kernel⟩
set_option maxRecDepth 20000 in
theorem i_La_placeOthers : Cond.instanceMethod y_La_placeOthers.1 ∈ xtb := xtbm (List.mem_of_getElem? (i := 859) rfl) rfl
set_option maxRecDepth 20000 in
theorem v_La_placeOthers : Cond.selects y_La_placeOthers.1.cls y_La_placeOthers.1 y_La_placeOthers.1 ∈ xtb := xtbm (List.mem_of_getElem? (i := 51) rfl) rfl
set_option maxRecDepth 20000 in
theorem z_La_writeOctets : xZ y_La_writeOctets 0 := ⟨xtbm (List.mem_of_getElem? (i := 87) rfl) rfl, xtbm (List.mem_of_getElem? (i := 864) rfl) rfl, by decide +kernel, by decide +kernel, by decide +kernel⟩
set_option maxRecDepth 20000 in
theorem i_La_writeOctets : Cond.instanceMethod y_La_writeOctets.1 ∈ xtb := xtbm (List.mem_of_getElem? (i := 863) rfl) rfl
set_option maxRecDepth 20000 in
theorem v_La_writeOctets : Cond.selects y_La_writeOctets.1.cls y_La_writeOctets.1 y_La_writeOctets.1 ∈ xtb := xtbm (List.mem_of_getElem? (i := 52) rfl) rfl
set_option maxRecDepth 20000 in
theorem z_DS_kept : xZ y_DS_kept 2 := ⟨xtbm (List.mem_of_getElem? (i := 83) rfl) rfl, xtbm (List.mem_of_getElem? (i := 868) rfl) rfl, by decide +kernel, by decide +kernel, by decide +kernel⟩
set_option maxRecDepth 20000 in
theorem i_DS_kept : Cond.instanceMethod y_DS_kept.1 ∈ xtb := xtbm (List.mem_of_getElem? (i := 866) rfl) rfl
set_option maxRecDepth 20000 in
theorem v_DS_kept : Cond.selects y_DS_kept.1.cls y_DS_kept.1 y_DS_kept.1 ∈ xtb := xtbm (List.mem_of_getElem? (i := 867) rfl) rfl
set_option maxRecDepth 20000 in
theorem z_DS_hadItem : xZ y_DS_hadItem 1 := ⟨xtbm (List.mem_of_getElem? (i := 83) rfl) rfl, xtbm (List.mem_of_getElem? (i := 872) rfl) rfl, by decide +kernel, by decide +kernel, by decide +kernel⟩
set_option maxRecDepth 20000 in
theorem i_DS_hadItem : Cond.instanceMethod y_DS_hadItem.1 ∈ xtb := xtbm (List.mem_of_getElem? (i := 871) rfl) rfl
set_option maxRecDepth 20000 in
theorem v_DS_hadItem : Cond.selects y_DS_hadItem.1.cls y_DS_hadItem.1 y_DS_hadItem.1 ∈ xtb := xtbm (List.mem_of_getElem? (i := 53) rfl) rfl
set_option maxRecDepth 20000 in
theorem z_JL_bitCount : xZ y_JL_bitCount 1 := ⟨xtbm (List.mem_of_getElem? (i := 95) rfl) rfl, xtbm (List.mem_of_getElem? (i := 877) rfl) rfl, by decide +kernel, by decide +kernel, by decide +kernel⟩
set_option maxRecDepth 20000 in
theorem s_JL_bitCount : Cond.static y_JL_bitCount.1 ∈ xtb := xtbm (List.mem_of_getElem? (i := 876) rfl) rfl
set_option maxRecDepth 20000 in
theorem z_DS_read : xZ y_DS_read 2 := ⟨xtbm (List.mem_of_getElem? (i := 83) rfl) rfl, xtbm (List.mem_of_getElem? (i := 885) rfl) rfl, by decide +kernel, by decide +kernel, by decide +kernel⟩
set_option maxRecDepth 20000 in
theorem i_DS_read : Cond.instanceMethod y_DS_read.1 ∈ xtb := xtbm (List.mem_of_getElem? (i := 883) rfl) rfl
set_option maxRecDepth 20000 in
theorem v_DS_read : Cond.selects y_DS_read.1.cls y_DS_read.1 y_DS_read.1 ∈ xtb := xtbm (List.mem_of_getElem? (i := 884) rfl) rfl
set_option maxRecDepth 20000 in
theorem z_DS_function : xZ y_DS_function 2 := ⟨xtbm (List.mem_of_getElem? (i := 83) rfl) rfl, xtbm (List.mem_of_getElem? (i := 889) rfl) rfl, by decide +kernel, by decide +kernel, by decide +kernel⟩
set_option maxRecDepth 20000 in
theorem i_DS_function : Cond.instanceMethod y_DS_function.1 ∈ xtb := xtbm (List.mem_of_getElem? (i := 887) rfl) rfl
set_option maxRecDepth 20000 in
theorem v_DS_function : Cond.selects y_DS_function.1.cls y_DS_function.1 y_DS_function.1 ∈ xtb := xtbm (List.mem_of_getElem? (i := 888) rfl) rfl
set_option maxRecDepth 20000 in
theorem z_Re_countComeTo : xZ y_Re_countComeTo 1 := ⟨xtbm (List.mem_of_getElem? (i := 85) rfl) rfl, xtbm (List.mem_of_getElem? (i := 893) rfl) rfl, by decide +kernel, by decide +kernel, by decide +kernel⟩
set_option maxRecDepth 20000 in
theorem i_Re_countComeTo : Cond.instanceMethod y_Re_countComeTo.1 ∈ xtb := xtbm (List.mem_of_getElem? (i := 891) rfl) rfl
set_option maxRecDepth 20000 in
theorem v_Re_countComeTo : Cond.selects y_Re_countComeTo.1.cls y_Re_countComeTo.1 y_Re_countComeTo.1 ∈ xtb := xtbm (List.mem_of_getElem? (i := 892) rfl) rfl
set_option maxRecDepth 20000 in
theorem z_DS_values : xZ y_DS_values 3 := ⟨xtbm (List.mem_of_getElem? (i := 83) rfl) rfl, xtbm (List.mem_of_getElem? (i := 899) rfl) rfl, by decide +kernel, by decide +kernel, by decide +kernel⟩
set_option maxRecDepth 20000 in
theorem i_DS_values : Cond.instanceMethod y_DS_values.1 ∈ xtb := xtbm (List.mem_of_getElem? (i := 897) rfl) rfl
set_option maxRecDepth 20000 in
theorem v_DS_values : Cond.selects y_DS_values.1.cls y_DS_values.1 y_DS_values.1 ∈ xtb := xtbm (List.mem_of_getElem? (i := 898) rfl) rfl
set_option maxRecDepth 20000 in
theorem z_Re_countValues : xZ y_Re_countValues 3 := ⟨xtbm (List.mem_of_getElem? (i := 85) rfl) rfl, xtbm (List.mem_of_getElem? (i := 904) rfl) rfl, by decide +kernel, by decide +kernel, by decide +kernel⟩
set_option maxRecDepth 20000 in
theorem i_Re_countValues : Cond.instanceMethod y_Re_countValues.1 ∈ xtb := xtbm (List.mem_of_getElem? (i := 902) rfl) rfl
set_option maxRecDepth 20000 in
theorem v_Re_countValues : Cond.selects y_Re_countValues.1.cls y_Re_countValues.1 y_Re_countValues.1 ∈ xtb := xtbm (List.mem_of_getElem? (i := 903) rfl) rfl
set_option maxRecDepth 20000 in
theorem z_OS_count : xZ y_OS_count 2 := ⟨xtbm (List.mem_of_getElem? (i := 94) rfl) rfl, xtbm (List.mem_of_getElem? (i := 907) rfl) rfl, by decide +kernel, by decide +kernel, by decide +kernel⟩
set_option maxRecDepth 20000 in
theorem s_OS_count : Cond.static y_OS_count.1 ∈ xtb := xtbm (List.mem_of_getElem? (i := 906) rfl) rfl
set_option maxRecDepth 20000 in
theorem z_DS_octet : xZ y_DS_octet 1 := ⟨xtbm (List.mem_of_getElem? (i := 83) rfl) rfl, xtbm (List.mem_of_getElem? (i := 912) rfl) rfl, by decide +kernel, by decide +kernel, by decide +kernel⟩
set_option maxRecDepth 20000 in
theorem i_DS_octet : Cond.instanceMethod y_DS_octet.1 ∈ xtb := xtbm (List.mem_of_getElem? (i := 910) rfl) rfl
set_option maxRecDepth 20000 in
theorem v_DS_octet : Cond.selects y_DS_octet.1.cls y_DS_octet.1 y_DS_octet.1 ∈ xtb := xtbm (List.mem_of_getElem? (i := 911) rfl) rfl
set_option maxRecDepth 20000 in
theorem z_DS_shrunk : xZ y_DS_shrunk 1 := ⟨xtbm (List.mem_of_getElem? (i := 83) rfl) rfl, xtbm (List.mem_of_getElem? (i := 916) rfl) rfl, by decide +kernel, by decide +kernel, by decide +kernel⟩
set_option maxRecDepth 20000 in
theorem i_DS_shrunk : Cond.instanceMethod y_DS_shrunk.1 ∈ xtb := xtbm (List.mem_of_getElem? (i := 914) rfl) rfl
set_option maxRecDepth 20000 in
theorem v_DS_shrunk : Cond.selects y_DS_shrunk.1.cls y_DS_shrunk.1 y_DS_shrunk.1 ∈ xtb := xtbm (List.mem_of_getElem? (i := 915) rfl) rfl
set_option maxRecDepth 20000 in
theorem z_La_countKept : xZ y_La_countKept 0 := ⟨xtbm (List.mem_of_getElem? (i := 87) rfl) rfl, xtbm (List.mem_of_getElem? (i := 920) rfl) rfl, by decide +kernel, by decide +kernel, by decide +kernel⟩
set_option maxRecDepth 20000 in
theorem i_La_countKept : Cond.instanceMethod y_La_countKept.1 ∈ xtb := xtbm (List.mem_of_getElem? (i := 918) rfl) rfl
set_option maxRecDepth 20000 in
theorem v_La_countKept : Cond.selects y_La_countKept.1.cls y_La_countKept.1 y_La_countKept.1 ∈ xtb := xtbm (List.mem_of_getElem? (i := 919) rfl) rfl
set_option maxRecDepth 20000 in
theorem z_La_countDropped : xZ y_La_countDropped 0 := ⟨xtbm (List.mem_of_getElem? (i := 87) rfl) rfl, xtbm (List.mem_of_getElem? (i := 925) rfl) rfl, by decide +kernel, by decide +kernel, by decide +kernel⟩
set_option maxRecDepth 20000 in
theorem i_La_countDropped : Cond.instanceMethod y_La_countDropped.1 ∈ xtb := xtbm (List.mem_of_getElem? (i := 923) rfl) rfl
set_option maxRecDepth 20000 in
theorem v_La_countDropped : Cond.selects y_La_countDropped.1.cls y_La_countDropped.1 y_La_countDropped.1 ∈ xtb := xtbm (List.mem_of_getElem? (i := 924) rfl) rfl
set_option maxRecDepth 20000 in
theorem z_La_isDropped : xZ y_La_isDropped 1 := ⟨xtbm (List.mem_of_getElem? (i := 87) rfl) rfl, xtbm (List.mem_of_getElem? (i := 929) rfl) rfl, by decide +kernel, by decide +kernel, by decide +kernel⟩
set_option maxRecDepth 20000 in
theorem i_La_isDropped : Cond.instanceMethod y_La_isDropped.1 ∈ xtb := xtbm (List.mem_of_getElem? (i := 928) rfl) rfl
set_option maxRecDepth 20000 in
theorem v_La_isDropped : Cond.selects y_La_isDropped.1.cls y_La_isDropped.1 y_La_isDropped.1 ∈ xtb := xtbm (List.mem_of_getElem? (i := 54) rfl) rfl
set_option maxRecDepth 20000 in
theorem z_La_countDroppedOctets : xZ y_La_countDroppedOctets 0 := ⟨xtbm (List.mem_of_getElem? (i := 87) rfl) rfl, xtbm (List.mem_of_getElem? (i := 933) rfl) rfl, by decide +kernel, by decide +kernel, by decide +kernel⟩
set_option maxRecDepth 20000 in
theorem i_La_countDroppedOctets : Cond.instanceMethod y_La_countDroppedOctets.1 ∈ xtb := xtbm (List.mem_of_getElem? (i := 931) rfl) rfl
set_option maxRecDepth 20000 in
theorem v_La_countDroppedOctets : Cond.selects y_La_countDroppedOctets.1.cls y_La_countDroppedOctets.1 y_La_countDroppedOctets.1 ∈ xtb := xtbm (List.mem_of_getElem? (i := 932) rfl) rfl
set_option maxRecDepth 20000 in
theorem z_DS_countOthers : xZ y_DS_countOthers 1 := ⟨xtbm (List.mem_of_getElem? (i := 83) rfl) rfl, xtbm (List.mem_of_getElem? (i := 936) rfl) rfl, by decide +kernel, by decide +kernel, by decide +kernel⟩
set_option maxRecDepth 20000 in
theorem s_DS_countOthers : Cond.static y_DS_countOthers.1 ∈ xtb := xtbm (List.mem_of_getElem? (i := 935) rfl) rfl
set_option maxRecDepth 20000 in
theorem z_Mo_init : xZ y_Mo_init 0 := ⟨xtbm (List.mem_of_getElem? (i := 90) rfl) rfl, xtbm (List.mem_of_getElem? (i := 941) rfl) rfl, by decide +kernel, by decide +kernel, by decide +kernel⟩
set_option maxRecDepth 20000 in
theorem i_Mo_init : Cond.instanceMethod y_Mo_init.1 ∈ xtb := xtbm (List.mem_of_getElem? (i := 940) rfl) rfl
set_option maxRecDepth 20000 in
theorem z_Mo_item : xZ y_Mo_item 5 := ⟨xtbm (List.mem_of_getElem? (i := 90) rfl) rfl, xtbm (List.mem_of_getElem? (i := 1123) rfl) rfl, by decide +kernel, by decide +kernel, by decide +kernel⟩
set_option maxRecDepth 20000 in
theorem i_Mo_item : Cond.instanceMethod y_Mo_item.1 ∈ xtb := xtbm (List.mem_of_getElem? (i := 1121) rfl) rfl
set_option maxRecDepth 20000 in
theorem v_Mo_item : Cond.selects y_Mo_item.1.cls y_Mo_item.1 y_Mo_item.1 ∈ xtb := xtbm (List.mem_of_getElem? (i := 1122) rfl) rfl
set_option maxRecDepth 20000 in
theorem z_Mo_in : xZ y_Mo_in 3 := ⟨xtbm (List.mem_of_getElem? (i := 90) rfl) rfl, xtbm (List.mem_of_getElem? (i := 1126) rfl) rfl, by decide +kernel, by decide +kernel, by decide +kernel⟩
set_option maxRecDepth 20000 in
theorem s_Mo_in : Cond.static y_Mo_in.1 ∈ xtb := xtbm (List.mem_of_getElem? (i := 1125) rfl) rfl
set_option maxRecDepth 20000 in
theorem z_Mo_bytes : xZ y_Mo_bytes 4 := ⟨xtbm (List.mem_of_getElem? (i := 90) rfl) rfl, xtbm (List.mem_of_getElem? (i := 1130) rfl) rfl, by decide +kernel, by decide +kernel, by decide +kernel⟩
set_option maxRecDepth 20000 in
theorem i_Mo_bytes : Cond.instanceMethod y_Mo_bytes.1 ∈ xtb := xtbm (List.mem_of_getElem? (i := 1128) rfl) rfl
set_option maxRecDepth 20000 in
theorem v_Mo_bytes : Cond.selects y_Mo_bytes.1.cls y_Mo_bytes.1 y_Mo_bytes.1 ∈ xtb := xtbm (List.mem_of_getElem? (i := 1129) rfl) rfl
set_option maxRecDepth 20000 in
theorem z_Mo_has : xZ y_Mo_has 2 := ⟨xtbm (List.mem_of_getElem? (i := 90) rfl) rfl, xtbm (List.mem_of_getElem? (i := 1134) rfl) rfl, by decide +kernel, by decide +kernel, by decide +kernel⟩
set_option maxRecDepth 20000 in
theorem i_Mo_has : Cond.instanceMethod y_Mo_has.1 ∈ xtb := xtbm (List.mem_of_getElem? (i := 1133) rfl) rfl
set_option maxRecDepth 20000 in
theorem v_Mo_has : Cond.selects y_Mo_has.1.cls y_Mo_has.1 y_Mo_has.1 ∈ xtb := xtbm (List.mem_of_getElem? (i := 55) rfl) rfl
set_option maxRecDepth 20000 in
theorem z_Mo_refer : xZ y_Mo_refer 3 := ⟨xtbm (List.mem_of_getElem? (i := 90) rfl) rfl, xtbm (List.mem_of_getElem? (i := 1139) rfl) rfl, by decide +kernel, by decide +kernel, by decide +kernel⟩
set_option maxRecDepth 20000 in
theorem i_Mo_refer : Cond.instanceMethod y_Mo_refer.1 ∈ xtb := xtbm (List.mem_of_getElem? (i := 1137) rfl) rfl
set_option maxRecDepth 20000 in
theorem v_Mo_refer : Cond.selects y_Mo_refer.1.cls y_Mo_refer.1 y_Mo_refer.1 ∈ xtb := xtbm (List.mem_of_getElem? (i := 1138) rfl) rfl
set_option maxRecDepth 20000 in
theorem z_Mo_code : xZ y_Mo_code 5 := ⟨xtbm (List.mem_of_getElem? (i := 90) rfl) rfl, xtbm (List.mem_of_getElem? (i := 1143) rfl) rfl, by decide +kernel, by decide +kernel, by decide +kernel⟩
set_option maxRecDepth 20000 in
theorem i_Mo_code : Cond.instanceMethod y_Mo_code.1 ∈ xtb := xtbm (List.mem_of_getElem? (i := 1141) rfl) rfl
set_option maxRecDepth 20000 in
theorem v_Mo_code : Cond.selects y_Mo_code.1.cls y_Mo_code.1 y_Mo_code.1 ∈ xtb := xtbm (List.mem_of_getElem? (i := 1142) rfl) rfl
set_option maxRecDepth 20000 in
theorem z_Mo_isTold : xZ y_Mo_isTold 4 := ⟨xtbm (List.mem_of_getElem? (i := 90) rfl) rfl, xtbm (List.mem_of_getElem? (i := 1146) rfl) rfl, by decide +kernel, by decide +kernel, by decide +kernel⟩
set_option maxRecDepth 20000 in
theorem s_Mo_isTold : Cond.static y_Mo_isTold.1 ∈ xtb := xtbm (List.mem_of_getElem? (i := 1145) rfl) rfl
set_option maxRecDepth 20000 in
theorem z_Mo_isRegister : xZ y_Mo_isRegister 1 := ⟨xtbm (List.mem_of_getElem? (i := 90) rfl) rfl, xtbm (List.mem_of_getElem? (i := 1149) rfl) rfl, by decide +kernel, by decide +kernel, by decide +kernel⟩
set_option maxRecDepth 20000 in
theorem s_Mo_isRegister : Cond.static y_Mo_isRegister.1 ∈ xtb := xtbm (List.mem_of_getElem? (i := 1148) rfl) rfl
set_option maxRecDepth 20000 in
theorem z_Mo_isItem : xZ y_Mo_isItem 1 := ⟨xtbm (List.mem_of_getElem? (i := 90) rfl) rfl, xtbm (List.mem_of_getElem? (i := 1152) rfl) rfl, by decide +kernel, by decide +kernel, by decide +kernel⟩
set_option maxRecDepth 20000 in
theorem s_Mo_isItem : Cond.static y_Mo_isItem.1 ∈ xtb := xtbm (List.mem_of_getElem? (i := 1151) rfl) rfl
set_option maxRecDepth 20000 in
theorem z_Mo_clear : xZ y_Mo_clear 1 := ⟨xtbm (List.mem_of_getElem? (i := 90) rfl) rfl, xtbm (List.mem_of_getElem? (i := 1156) rfl) rfl, by decide +kernel, by decide +kernel, by decide +kernel⟩
set_option maxRecDepth 20000 in
theorem i_Mo_clear : Cond.instanceMethod y_Mo_clear.1 ∈ xtb := xtbm (List.mem_of_getElem? (i := 1154) rfl) rfl
set_option maxRecDepth 20000 in
theorem v_Mo_clear : Cond.selects y_Mo_clear.1.cls y_Mo_clear.1 y_Mo_clear.1 ∈ xtb := xtbm (List.mem_of_getElem? (i := 1155) rfl) rfl
set_option maxRecDepth 20000 in
theorem z_Mo_entry : xZ y_Mo_entry 2 := ⟨xtbm (List.mem_of_getElem? (i := 90) rfl) rfl, xtbm (List.mem_of_getElem? (i := 1160) rfl) rfl, by decide +kernel, by decide +kernel, by decide +kernel⟩
set_option maxRecDepth 20000 in
theorem i_Mo_entry : Cond.instanceMethod y_Mo_entry.1 ∈ xtb := xtbm (List.mem_of_getElem? (i := 1158) rfl) rfl
set_option maxRecDepth 20000 in
theorem v_Mo_entry : Cond.selects y_Mo_entry.1.cls y_Mo_entry.1 y_Mo_entry.1 ∈ xtb := xtbm (List.mem_of_getElem? (i := 1159) rfl) rfl
set_option maxRecDepth 20000 in
theorem z_Mo_input1 : xZ y_Mo_input1 2 := ⟨xtbm (List.mem_of_getElem? (i := 90) rfl) rfl, xtbm (List.mem_of_getElem? (i := 1164) rfl) rfl, by decide +kernel, by decide +kernel, by decide +kernel⟩
set_option maxRecDepth 20000 in
theorem i_Mo_input1 : Cond.instanceMethod y_Mo_input1.1 ∈ xtb := xtbm (List.mem_of_getElem? (i := 1162) rfl) rfl
set_option maxRecDepth 20000 in
theorem v_Mo_input1 : Cond.selects y_Mo_input1.1.cls y_Mo_input1.1 y_Mo_input1.1 ∈ xtb := xtbm (List.mem_of_getElem? (i := 1163) rfl) rfl
set_option maxRecDepth 20000 in
theorem z_Mo_input2 : xZ y_Mo_input2 0 := ⟨xtbm (List.mem_of_getElem? (i := 90) rfl) rfl, xtbm (List.mem_of_getElem? (i := 1168) rfl) rfl, by decide +kernel, by decide +kernel, by decide +kernel⟩
set_option maxRecDepth 20000 in
theorem i_Mo_input2 : Cond.instanceMethod y_Mo_input2.1 ∈ xtb := xtbm (List.mem_of_getElem? (i := 1166) rfl) rfl
set_option maxRecDepth 20000 in
theorem v_Mo_input2 : Cond.selects y_Mo_input2.1.cls y_Mo_input2.1 y_Mo_input2.1 ∈ xtb := xtbm (List.mem_of_getElem? (i := 1167) rfl) rfl
set_option maxRecDepth 20000 in
theorem z_Mo_run : xZ y_Mo_run 1 := ⟨xtbm (List.mem_of_getElem? (i := 90) rfl) rfl, xtbm (List.mem_of_getElem? (i := 1172) rfl) rfl, by decide +kernel, by decide +kernel, by decide +kernel⟩
set_option maxRecDepth 20000 in
theorem i_Mo_run : Cond.instanceMethod y_Mo_run.1 ∈ xtb := xtbm (List.mem_of_getElem? (i := 1170) rfl) rfl
set_option maxRecDepth 20000 in
theorem v_Mo_run : Cond.selects y_Mo_run.1.cls y_Mo_run.1 y_Mo_run.1 ∈ xtb := xtbm (List.mem_of_getElem? (i := 1171) rfl) rfl
set_option maxRecDepth 20000 in
theorem z_Mo_goes : xZ y_Mo_goes 1 := ⟨xtbm (List.mem_of_getElem? (i := 90) rfl) rfl, xtbm (List.mem_of_getElem? (i := 1176) rfl) rfl, by decide +kernel, by decide +kernel, by decide +kernel⟩
set_option maxRecDepth 20000 in
theorem i_Mo_goes : Cond.instanceMethod y_Mo_goes.1 ∈ xtb := xtbm (List.mem_of_getElem? (i := 1175) rfl) rfl
set_option maxRecDepth 20000 in
theorem v_Mo_goes : Cond.selects y_Mo_goes.1.cls y_Mo_goes.1 y_Mo_goes.1 ∈ xtb := xtbm (List.mem_of_getElem? (i := 56) rfl) rfl
set_option maxRecDepth 20000 in
theorem z_Mo_place : xZ y_Mo_place 2 := ⟨xtbm (List.mem_of_getElem? (i := 90) rfl) rfl, xtbm (List.mem_of_getElem? (i := 1180) rfl) rfl, by decide +kernel, by decide +kernel, by decide +kernel⟩
set_option maxRecDepth 20000 in
theorem i_Mo_place : Cond.instanceMethod y_Mo_place.1 ∈ xtb := xtbm (List.mem_of_getElem? (i := 1179) rfl) rfl
set_option maxRecDepth 20000 in
theorem v_Mo_place : Cond.selects y_Mo_place.1.cls y_Mo_place.1 y_Mo_place.1 ∈ xtb := xtbm (List.mem_of_getElem? (i := 57) rfl) rfl
set_option maxRecDepth 20000 in
theorem z_Mo_runLaid : xZ y_Mo_runLaid 1 := ⟨xtbm (List.mem_of_getElem? (i := 90) rfl) rfl, xtbm (List.mem_of_getElem? (i := 1184) rfl) rfl, by decide +kernel, by decide +kernel, by decide +kernel⟩
set_option maxRecDepth 20000 in
theorem i_Mo_runLaid : Cond.instanceMethod y_Mo_runLaid.1 ∈ xtb := xtbm (List.mem_of_getElem? (i := 1182) rfl) rfl
set_option maxRecDepth 20000 in
theorem v_Mo_runLaid : Cond.selects y_Mo_runLaid.1.cls y_Mo_runLaid.1 y_Mo_runLaid.1 ∈ xtb := xtbm (List.mem_of_getElem? (i := 1183) rfl) rfl
set_option maxRecDepth 20000 in
theorem z_Mo_ran : xZ y_Mo_ran 1 := ⟨xtbm (List.mem_of_getElem? (i := 90) rfl) rfl, xtbm (List.mem_of_getElem? (i := 1188) rfl) rfl, by decide +kernel, by decide +kernel, by decide +kernel⟩
set_option maxRecDepth 20000 in
theorem i_Mo_ran : Cond.instanceMethod y_Mo_ran.1 ∈ xtb := xtbm (List.mem_of_getElem? (i := 1186) rfl) rfl
set_option maxRecDepth 20000 in
theorem v_Mo_ran : Cond.selects y_Mo_ran.1.cls y_Mo_ran.1 y_Mo_ran.1 ∈ xtb := xtbm (List.mem_of_getElem? (i := 1187) rfl) rfl
set_option maxRecDepth 20000 in
theorem z_Mo_out : xZ y_Mo_out 1 := ⟨xtbm (List.mem_of_getElem? (i := 90) rfl) rfl, xtbm (List.mem_of_getElem? (i := 1192) rfl) rfl, by decide +kernel, by decide +kernel, by decide +kernel⟩
set_option maxRecDepth 20000 in
theorem i_Mo_out : Cond.instanceMethod y_Mo_out.1 ∈ xtb := xtbm (List.mem_of_getElem? (i := 1190) rfl) rfl
set_option maxRecDepth 20000 in
theorem v_Mo_out : Cond.selects y_Mo_out.1.cls y_Mo_out.1 y_Mo_out.1 ∈ xtb := xtbm (List.mem_of_getElem? (i := 1191) rfl) rfl
set_option maxRecDepth 20000 in
theorem z_Mo_shrink : xZ y_Mo_shrink 0 := ⟨xtbm (List.mem_of_getElem? (i := 90) rfl) rfl, xtbm (List.mem_of_getElem? (i := 1196) rfl) rfl, by decide +kernel, by decide +kernel, by decide +kernel⟩
set_option maxRecDepth 20000 in
theorem i_Mo_shrink : Cond.instanceMethod y_Mo_shrink.1 ∈ xtb := xtbm (List.mem_of_getElem? (i := 1194) rfl) rfl
set_option maxRecDepth 20000 in
theorem v_Mo_shrink : Cond.selects y_Mo_shrink.1.cls y_Mo_shrink.1 y_Mo_shrink.1 ∈ xtb := xtbm (List.mem_of_getElem? (i := 1195) rfl) rfl
set_option maxRecDepth 20000 in
theorem z_Mo_reach : xZ y_Mo_reach 0 := ⟨xtbm (List.mem_of_getElem? (i := 90) rfl) rfl, xtbm (List.mem_of_getElem? (i := 1200) rfl) rfl, by decide +kernel, by decide +kernel, by decide +kernel⟩
set_option maxRecDepth 20000 in
theorem i_Mo_reach : Cond.instanceMethod y_Mo_reach.1 ∈ xtb := xtbm (List.mem_of_getElem? (i := 1199) rfl) rfl
set_option maxRecDepth 20000 in
theorem v_Mo_reach : Cond.selects y_Mo_reach.1.cls y_Mo_reach.1 y_Mo_reach.1 ∈ xtb := xtbm (List.mem_of_getElem? (i := 58) rfl) rfl
set_option maxRecDepth 20000 in
theorem z_Mo_comes : xZ y_Mo_comes 2 := ⟨xtbm (List.mem_of_getElem? (i := 90) rfl) rfl, xtbm (List.mem_of_getElem? (i := 1204) rfl) rfl, by decide +kernel, by decide +kernel, by decide +kernel⟩
set_option maxRecDepth 20000 in
theorem i_Mo_comes : Cond.instanceMethod y_Mo_comes.1 ∈ xtb := xtbm (List.mem_of_getElem? (i := 1203) rfl) rfl
set_option maxRecDepth 20000 in
theorem v_Mo_comes : Cond.selects y_Mo_comes.1.cls y_Mo_comes.1 y_Mo_comes.1 ∈ xtb := xtbm (List.mem_of_getElem? (i := 59) rfl) rfl
set_option maxRecDepth 20000 in
theorem z_Mo_takes : xZ y_Mo_takes 2 := ⟨xtbm (List.mem_of_getElem? (i := 90) rfl) rfl, xtbm (List.mem_of_getElem? (i := 1208) rfl) rfl, by decide +kernel, by decide +kernel, by decide +kernel⟩
set_option maxRecDepth 20000 in
theorem i_Mo_takes : Cond.instanceMethod y_Mo_takes.1 ∈ xtb := xtbm (List.mem_of_getElem? (i := 1207) rfl) rfl
set_option maxRecDepth 20000 in
theorem v_Mo_takes : Cond.selects y_Mo_takes.1.cls y_Mo_takes.1 y_Mo_takes.1 ∈ xtb := xtbm (List.mem_of_getElem? (i := 60) rfl) rfl
set_option maxRecDepth 20000 in
theorem z_Mo_returned : xZ y_Mo_returned 1 := ⟨xtbm (List.mem_of_getElem? (i := 90) rfl) rfl, xtbm (List.mem_of_getElem? (i := 1212) rfl) rfl, by decide +kernel, by decide +kernel, by decide +kernel⟩
set_option maxRecDepth 20000 in
theorem i_Mo_returned : Cond.instanceMethod y_Mo_returned.1 ∈ xtb := xtbm (List.mem_of_getElem? (i := 1211) rfl) rfl
set_option maxRecDepth 20000 in
theorem v_Mo_returned : Cond.selects y_Mo_returned.1.cls y_Mo_returned.1 y_Mo_returned.1 ∈ xtb := xtbm (List.mem_of_getElem? (i := 61) rfl) rfl
set_option maxRecDepth 20000 in
theorem z_Mo_empty : xZ y_Mo_empty 0 := ⟨xtbm (List.mem_of_getElem? (i := 90) rfl) rfl, xtbm (List.mem_of_getElem? (i := 1216) rfl) rfl, by decide +kernel, by decide +kernel, by decide +kernel⟩
set_option maxRecDepth 20000 in
theorem i_Mo_empty : Cond.instanceMethod y_Mo_empty.1 ∈ xtb := xtbm (List.mem_of_getElem? (i := 1215) rfl) rfl
set_option maxRecDepth 20000 in
theorem v_Mo_empty : Cond.selects y_Mo_empty.1.cls y_Mo_empty.1 y_Mo_empty.1 ∈ xtb := xtbm (List.mem_of_getElem? (i := 62) rfl) rfl
set_option maxRecDepth 20000 in
theorem z_Mo_put : xZ y_Mo_put 1 := ⟨xtbm (List.mem_of_getElem? (i := 90) rfl) rfl, xtbm (List.mem_of_getElem? (i := 1220) rfl) rfl, by decide +kernel, by decide +kernel, by decide +kernel⟩
set_option maxRecDepth 20000 in
theorem i_Mo_put : Cond.instanceMethod y_Mo_put.1 ∈ xtb := xtbm (List.mem_of_getElem? (i := 1219) rfl) rfl
set_option maxRecDepth 20000 in
theorem v_Mo_put : Cond.selects y_Mo_put.1.cls y_Mo_put.1 y_Mo_put.1 ∈ xtb := xtbm (List.mem_of_getElem? (i := 63) rfl) rfl
set_option maxRecDepth 20000 in
theorem z_Mo_gets : xZ y_Mo_gets 1 := ⟨xtbm (List.mem_of_getElem? (i := 90) rfl) rfl, xtbm (List.mem_of_getElem? (i := 1224) rfl) rfl, by decide +kernel, by decide +kernel, by decide +kernel⟩
set_option maxRecDepth 20000 in
theorem i_Mo_gets : Cond.instanceMethod y_Mo_gets.1 ∈ xtb := xtbm (List.mem_of_getElem? (i := 1223) rfl) rfl
set_option maxRecDepth 20000 in
theorem v_Mo_gets : Cond.selects y_Mo_gets.1.cls y_Mo_gets.1 y_Mo_gets.1 ∈ xtb := xtbm (List.mem_of_getElem? (i := 64) rfl) rfl
set_option maxRecDepth 20000 in
theorem z_Mo_hasValue : xZ y_Mo_hasValue 3 := ⟨xtbm (List.mem_of_getElem? (i := 90) rfl) rfl, xtbm (List.mem_of_getElem? (i := 1228) rfl) rfl, by decide +kernel, by decide +kernel, by decide +kernel⟩
set_option maxRecDepth 20000 in
theorem i_Mo_hasValue : Cond.instanceMethod y_Mo_hasValue.1 ∈ xtb := xtbm (List.mem_of_getElem? (i := 1227) rfl) rfl
set_option maxRecDepth 20000 in
theorem v_Mo_hasValue : Cond.selects y_Mo_hasValue.1.cls y_Mo_hasValue.1 y_Mo_hasValue.1 ∈ xtb := xtbm (List.mem_of_getElem? (i := 65) rfl) rfl
set_option maxRecDepth 20000 in
theorem z_Mo_loads : xZ y_Mo_loads 2 := ⟨xtbm (List.mem_of_getElem? (i := 90) rfl) rfl, xtbm (List.mem_of_getElem? (i := 1232) rfl) rfl, by decide +kernel, by decide +kernel, by decide +kernel⟩
set_option maxRecDepth 20000 in
theorem i_Mo_loads : Cond.instanceMethod y_Mo_loads.1 ∈ xtb := xtbm (List.mem_of_getElem? (i := 1231) rfl) rfl
set_option maxRecDepth 20000 in
theorem v_Mo_loads : Cond.selects y_Mo_loads.1.cls y_Mo_loads.1 y_Mo_loads.1 ∈ xtb := xtbm (List.mem_of_getElem? (i := 66) rfl) rfl
set_option maxRecDepth 20000 in
theorem z_Mo_stores : xZ y_Mo_stores 3 := ⟨xtbm (List.mem_of_getElem? (i := 90) rfl) rfl, xtbm (List.mem_of_getElem? (i := 1236) rfl) rfl, by decide +kernel, by decide +kernel, by decide +kernel⟩
set_option maxRecDepth 20000 in
theorem i_Mo_stores : Cond.instanceMethod y_Mo_stores.1 ∈ xtb := xtbm (List.mem_of_getElem? (i := 1235) rfl) rfl
set_option maxRecDepth 20000 in
theorem v_Mo_stores : Cond.selects y_Mo_stores.1.cls y_Mo_stores.1 y_Mo_stores.1 ∈ xtb := xtbm (List.mem_of_getElem? (i := 67) rfl) rfl
set_option maxRecDepth 20000 in
theorem z_Mo_skips : xZ y_Mo_skips 4 := ⟨xtbm (List.mem_of_getElem? (i := 90) rfl) rfl, xtbm (List.mem_of_getElem? (i := 1240) rfl) rfl, by decide +kernel, by decide +kernel, by decide +kernel⟩
set_option maxRecDepth 20000 in
theorem i_Mo_skips : Cond.instanceMethod y_Mo_skips.1 ∈ xtb := xtbm (List.mem_of_getElem? (i := 1239) rfl) rfl
set_option maxRecDepth 20000 in
theorem v_Mo_skips : Cond.selects y_Mo_skips.1.cls y_Mo_skips.1 y_Mo_skips.1 ∈ xtb := xtbm (List.mem_of_getElem? (i := 68) rfl) rfl
set_option maxRecDepth 20000 in
theorem z_Mo_follows : xZ y_Mo_follows 2 := ⟨xtbm (List.mem_of_getElem? (i := 90) rfl) rfl, xtbm (List.mem_of_getElem? (i := 1246) rfl) rfl, by decide +kernel, by decide +kernel, by decide +kernel⟩
set_option maxRecDepth 20000 in
theorem i_Mo_follows : Cond.instanceMethod y_Mo_follows.1 ∈ xtb := xtbm (List.mem_of_getElem? (i := 1245) rfl) rfl
set_option maxRecDepth 20000 in
theorem v_Mo_follows : Cond.selects y_Mo_follows.1.cls y_Mo_follows.1 y_Mo_follows.1 ∈ xtb := xtbm (List.mem_of_getElem? (i := 69) rfl) rfl
set_option maxRecDepth 20000 in
theorem z_Mo_keeps : xZ y_Mo_keeps 0 := ⟨xtbm (List.mem_of_getElem? (i := 90) rfl) rfl, xtbm (List.mem_of_getElem? (i := 1250) rfl) rfl, by decide +kernel, by decide +kernel, by decide +kernel⟩
set_option maxRecDepth 20000 in
theorem i_Mo_keeps : Cond.instanceMethod y_Mo_keeps.1 ∈ xtb := xtbm (List.mem_of_getElem? (i := 1249) rfl) rfl
set_option maxRecDepth 20000 in
theorem v_Mo_keeps : Cond.selects y_Mo_keeps.1.cls y_Mo_keeps.1 y_Mo_keeps.1 ∈ xtb := xtbm (List.mem_of_getElem? (i := 70) rfl) rfl
set_option maxRecDepth 20000 in
theorem z_Mo_reads : xZ y_Mo_reads 1 := ⟨xtbm (List.mem_of_getElem? (i := 90) rfl) rfl, xtbm (List.mem_of_getElem? (i := 1254) rfl) rfl, by decide +kernel, by decide +kernel, by decide +kernel⟩
set_option maxRecDepth 20000 in
theorem i_Mo_reads : Cond.instanceMethod y_Mo_reads.1 ∈ xtb := xtbm (List.mem_of_getElem? (i := 1253) rfl) rfl
set_option maxRecDepth 20000 in
theorem v_Mo_reads : Cond.selects y_Mo_reads.1.cls y_Mo_reads.1 y_Mo_reads.1 ∈ xtb := xtbm (List.mem_of_getElem? (i := 71) rfl) rfl
set_option maxRecDepth 20000 in
theorem z_Mo_chains : xZ y_Mo_chains 0 := ⟨xtbm (List.mem_of_getElem? (i := 90) rfl) rfl, xtbm (List.mem_of_getElem? (i := 1258) rfl) rfl, by decide +kernel, by decide +kernel, by decide +kernel⟩
set_option maxRecDepth 20000 in
theorem i_Mo_chains : Cond.instanceMethod y_Mo_chains.1 ∈ xtb := xtbm (List.mem_of_getElem? (i := 1257) rfl) rfl
set_option maxRecDepth 20000 in
theorem v_Mo_chains : Cond.selects y_Mo_chains.1.cls y_Mo_chains.1 y_Mo_chains.1 ∈ xtb := xtbm (List.mem_of_getElem? (i := 72) rfl) rfl
set_option maxRecDepth 20000 in
theorem z_Mo_leads : xZ y_Mo_leads 2 := ⟨xtbm (List.mem_of_getElem? (i := 90) rfl) rfl, xtbm (List.mem_of_getElem? (i := 1262) rfl) rfl, by decide +kernel, by decide +kernel, by decide +kernel⟩
set_option maxRecDepth 20000 in
theorem i_Mo_leads : Cond.instanceMethod y_Mo_leads.1 ∈ xtb := xtbm (List.mem_of_getElem? (i := 1261) rfl) rfl
set_option maxRecDepth 20000 in
theorem v_Mo_leads : Cond.selects y_Mo_leads.1.cls y_Mo_leads.1 y_Mo_leads.1 ∈ xtb := xtbm (List.mem_of_getElem? (i := 73) rfl) rfl
set_option maxRecDepth 20000 in
theorem z_Mo_readsBy : xZ y_Mo_readsBy 2 := ⟨xtbm (List.mem_of_getElem? (i := 90) rfl) rfl, xtbm (List.mem_of_getElem? (i := 1266) rfl) rfl, by decide +kernel, by decide +kernel, by decide +kernel⟩
set_option maxRecDepth 20000 in
theorem i_Mo_readsBy : Cond.instanceMethod y_Mo_readsBy.1 ∈ xtb := xtbm (List.mem_of_getElem? (i := 1265) rfl) rfl
set_option maxRecDepth 20000 in
theorem v_Mo_readsBy : Cond.selects y_Mo_readsBy.1.cls y_Mo_readsBy.1 y_Mo_readsBy.1 ∈ xtb := xtbm (List.mem_of_getElem? (i := 74) rfl) rfl
set_option maxRecDepth 20000 in
theorem z_Mo_lays : xZ y_Mo_lays 0 := ⟨xtbm (List.mem_of_getElem? (i := 90) rfl) rfl, xtbm (List.mem_of_getElem? (i := 1270) rfl) rfl, by decide +kernel, by decide +kernel, by decide +kernel⟩
set_option maxRecDepth 20000 in
theorem i_Mo_lays : Cond.instanceMethod y_Mo_lays.1 ∈ xtb := xtbm (List.mem_of_getElem? (i := 1269) rfl) rfl
set_option maxRecDepth 20000 in
theorem v_Mo_lays : Cond.selects y_Mo_lays.1.cls y_Mo_lays.1 y_Mo_lays.1 ∈ xtb := xtbm (List.mem_of_getElem? (i := 75) rfl) rfl
set_option maxRecDepth 20000 in
theorem z_Mo_joins : xZ y_Mo_joins 0 := ⟨xtbm (List.mem_of_getElem? (i := 90) rfl) rfl, xtbm (List.mem_of_getElem? (i := 1274) rfl) rfl, by decide +kernel, by decide +kernel, by decide +kernel⟩
set_option maxRecDepth 20000 in
theorem i_Mo_joins : Cond.instanceMethod y_Mo_joins.1 ∈ xtb := xtbm (List.mem_of_getElem? (i := 1273) rfl) rfl
set_option maxRecDepth 20000 in
theorem v_Mo_joins : Cond.selects y_Mo_joins.1.cls y_Mo_joins.1 y_Mo_joins.1 ∈ xtb := xtbm (List.mem_of_getElem? (i := 76) rfl) rfl
set_option maxRecDepth 20000 in
theorem z_Mo_refers : xZ y_Mo_refers 1 := ⟨xtbm (List.mem_of_getElem? (i := 90) rfl) rfl, xtbm (List.mem_of_getElem? (i := 1278) rfl) rfl, by decide +kernel, by decide +kernel, by decide +kernel⟩
set_option maxRecDepth 20000 in
theorem i_Mo_refers : Cond.instanceMethod y_Mo_refers.1 ∈ xtb := xtbm (List.mem_of_getElem? (i := 1277) rfl) rfl
set_option maxRecDepth 20000 in
theorem v_Mo_refers : Cond.selects y_Mo_refers.1.cls y_Mo_refers.1 y_Mo_refers.1 ∈ xtb := xtbm (List.mem_of_getElem? (i := 77) rfl) rfl
set_option maxRecDepth 20000 in
theorem z_Mo_endsWith : xZ y_Mo_endsWith 2 := ⟨xtbm (List.mem_of_getElem? (i := 90) rfl) rfl, xtbm (List.mem_of_getElem? (i := 1282) rfl) rfl, by decide +kernel, by decide +kernel, by decide +kernel⟩
set_option maxRecDepth 20000 in
theorem i_Mo_endsWith : Cond.instanceMethod y_Mo_endsWith.1 ∈ xtb := xtbm (List.mem_of_getElem? (i := 1281) rfl) rfl
set_option maxRecDepth 20000 in
theorem v_Mo_endsWith : Cond.selects y_Mo_endsWith.1.cls y_Mo_endsWith.1 y_Mo_endsWith.1 ∈ xtb := xtbm (List.mem_of_getElem? (i := 78) rfl) rfl
set_option maxRecDepth 20000 in
theorem z_Mo_tries : xZ y_Mo_tries 0 := ⟨xtbm (List.mem_of_getElem? (i := 90) rfl) rfl, xtbm (List.mem_of_getElem? (i := 1286) rfl) rfl, by decide +kernel, by decide +kernel, by decide +kernel⟩
set_option maxRecDepth 20000 in
theorem i_Mo_tries : Cond.instanceMethod y_Mo_tries.1 ∈ xtb := xtbm (List.mem_of_getElem? (i := 1285) rfl) rfl
set_option maxRecDepth 20000 in
theorem v_Mo_tries : Cond.selects y_Mo_tries.1.cls y_Mo_tries.1 y_Mo_tries.1 ∈ xtb := xtbm (List.mem_of_getElem? (i := 79) rfl) rfl
set_option maxRecDepth 20000 in
theorem z_Mo_bytesOf : xZ y_Mo_bytesOf 0 := ⟨xtbm (List.mem_of_getElem? (i := 90) rfl) rfl, xtbm (List.mem_of_getElem? (i := 1290) rfl) rfl, by decide +kernel, by decide +kernel, by decide +kernel⟩
set_option maxRecDepth 20000 in
theorem i_Mo_bytesOf : Cond.instanceMethod y_Mo_bytesOf.1 ∈ xtb := xtbm (List.mem_of_getElem? (i := 1289) rfl) rfl
set_option maxRecDepth 20000 in
theorem v_Mo_bytesOf : Cond.selects y_Mo_bytesOf.1.cls y_Mo_bytesOf.1 y_Mo_bytesOf.1 ∈ xtb := xtbm (List.mem_of_getElem? (i := 80) rfl) rfl
set_option maxRecDepth 20000 in
theorem z_Mo_next : xZ y_Mo_next 2 := ⟨xtbm (List.mem_of_getElem? (i := 90) rfl) rfl, xtbm (List.mem_of_getElem? (i := 1293) rfl) rfl, by decide +kernel, by decide +kernel, by decide +kernel⟩
set_option maxRecDepth 20000 in
theorem s_Mo_next : Cond.static y_Mo_next.1 ∈ xtb := xtbm (List.mem_of_getElem? (i := 1292) rfl) rfl
set_option maxRecDepth 20000 in
theorem z_Mo_kept : xZ y_Mo_kept 2 := ⟨xtbm (List.mem_of_getElem? (i := 90) rfl) rfl, xtbm (List.mem_of_getElem? (i := 1297) rfl) rfl, by decide +kernel, by decide +kernel, by decide +kernel⟩
set_option maxRecDepth 20000 in
theorem i_Mo_kept : Cond.instanceMethod y_Mo_kept.1 ∈ xtb := xtbm (List.mem_of_getElem? (i := 1295) rfl) rfl
set_option maxRecDepth 20000 in
theorem v_Mo_kept : Cond.selects y_Mo_kept.1.cls y_Mo_kept.1 y_Mo_kept.1 ∈ xtb := xtbm (List.mem_of_getElem? (i := 1296) rfl) rfl
set_option maxRecDepth 20000 in
theorem z_Mo_wasItem : xZ y_Mo_wasItem 1 := ⟨xtbm (List.mem_of_getElem? (i := 90) rfl) rfl, xtbm (List.mem_of_getElem? (i := 1301) rfl) rfl, by decide +kernel, by decide +kernel, by decide +kernel⟩
set_option maxRecDepth 20000 in
theorem i_Mo_wasItem : Cond.instanceMethod y_Mo_wasItem.1 ∈ xtb := xtbm (List.mem_of_getElem? (i := 1300) rfl) rfl
set_option maxRecDepth 20000 in
theorem v_Mo_wasItem : Cond.selects y_Mo_wasItem.1.cls y_Mo_wasItem.1 y_Mo_wasItem.1 ∈ xtb := xtbm (List.mem_of_getElem? (i := 81) rfl) rfl
set_option maxRecDepth 20000 in
theorem z_Mo_read : xZ y_Mo_read 2 := ⟨xtbm (List.mem_of_getElem? (i := 90) rfl) rfl, xtbm (List.mem_of_getElem? (i := 1305) rfl) rfl, by decide +kernel, by decide +kernel, by decide +kernel⟩
set_option maxRecDepth 20000 in
theorem i_Mo_read : Cond.instanceMethod y_Mo_read.1 ∈ xtb := xtbm (List.mem_of_getElem? (i := 1303) rfl) rfl
set_option maxRecDepth 20000 in
theorem v_Mo_read : Cond.selects y_Mo_read.1.cls y_Mo_read.1 y_Mo_read.1 ∈ xtb := xtbm (List.mem_of_getElem? (i := 1304) rfl) rfl
set_option maxRecDepth 20000 in
theorem z_Mo_function : xZ y_Mo_function 2 := ⟨xtbm (List.mem_of_getElem? (i := 90) rfl) rfl, xtbm (List.mem_of_getElem? (i := 1309) rfl) rfl, by decide +kernel, by decide +kernel, by decide +kernel⟩
set_option maxRecDepth 20000 in
theorem i_Mo_function : Cond.instanceMethod y_Mo_function.1 ∈ xtb := xtbm (List.mem_of_getElem? (i := 1307) rfl) rfl
set_option maxRecDepth 20000 in
theorem v_Mo_function : Cond.selects y_Mo_function.1.cls y_Mo_function.1 y_Mo_function.1 ∈ xtb := xtbm (List.mem_of_getElem? (i := 1308) rfl) rfl
set_option maxRecDepth 20000 in
theorem z_Mo_values : xZ y_Mo_values 3 := ⟨xtbm (List.mem_of_getElem? (i := 90) rfl) rfl, xtbm (List.mem_of_getElem? (i := 1313) rfl) rfl, by decide +kernel, by decide +kernel, by decide +kernel⟩
set_option maxRecDepth 20000 in
theorem i_Mo_values : Cond.instanceMethod y_Mo_values.1 ∈ xtb := xtbm (List.mem_of_getElem? (i := 1311) rfl) rfl
set_option maxRecDepth 20000 in
theorem v_Mo_values : Cond.selects y_Mo_values.1.cls y_Mo_values.1 y_Mo_values.1 ∈ xtb := xtbm (List.mem_of_getElem? (i := 1312) rfl) rfl
set_option maxRecDepth 20000 in
theorem z_Mo_octet : xZ y_Mo_octet 1 := ⟨xtbm (List.mem_of_getElem? (i := 90) rfl) rfl, xtbm (List.mem_of_getElem? (i := 1317) rfl) rfl, by decide +kernel, by decide +kernel, by decide +kernel⟩
set_option maxRecDepth 20000 in
theorem i_Mo_octet : Cond.instanceMethod y_Mo_octet.1 ∈ xtb := xtbm (List.mem_of_getElem? (i := 1315) rfl) rfl
set_option maxRecDepth 20000 in
theorem v_Mo_octet : Cond.selects y_Mo_octet.1.cls y_Mo_octet.1 y_Mo_octet.1 ∈ xtb := xtbm (List.mem_of_getElem? (i := 1316) rfl) rfl
set_option maxRecDepth 20000 in
theorem z_Mo_shrunk : xZ y_Mo_shrunk 1 := ⟨xtbm (List.mem_of_getElem? (i := 90) rfl) rfl, xtbm (List.mem_of_getElem? (i := 1321) rfl) rfl, by decide +kernel, by decide +kernel, by decide +kernel⟩
set_option maxRecDepth 20000 in
theorem i_Mo_shrunk : Cond.instanceMethod y_Mo_shrunk.1 ∈ xtb := xtbm (List.mem_of_getElem? (i := 1319) rfl) rfl
set_option maxRecDepth 20000 in
theorem v_Mo_shrunk : Cond.selects y_Mo_shrunk.1.cls y_Mo_shrunk.1 y_Mo_shrunk.1 ∈ xtb := xtbm (List.mem_of_getElem? (i := 1320) rfl) rfl
set_option maxRecDepth 20000 in
theorem l_Lw_9 : xLk "DataShrinkerLaw" 9 y_DS_init.1 := Or.inl (xtbm (List.mem_of_getElem? (i := 99) rfl) rfl)
set_option maxRecDepth 20000 in
theorem l_DS_11 : xLk "DataShrinker" 11 y_Pr_init.1 := Or.inr ⟨"DataShrinker", List.mem_of_getElem? (i := 0) rfl⟩
set_option maxRecDepth 20000 in
theorem l_DS_18 : xLk "DataShrinker" 18 y_Re_init.1 := Or.inl (xtbm (List.mem_of_getElem? (i := 190) rfl) rfl)
set_option maxRecDepth 20000 in
theorem l_Re_13 : xLk "DataShrinker$Reach" 13 y_Ch_init.1 := Or.inr ⟨"DataShrinker", List.mem_of_getElem? (i := 1) rfl⟩
set_option maxRecDepth 20000 in
theorem l_DS_27 : xLk "DataShrinker" 27 y_La_init.1 := Or.inl (xtbm (List.mem_of_getElem? (i := 256) rfl) rfl)
set_option maxRecDepth 20000 in
theorem l_La_11 : xLk "DataShrinker$Layout" 11 y_BO_init.1 := Or.inr ⟨"DataShrinker", List.mem_of_getElem? (i := 2) rfl⟩
set_option maxRecDepth 20000 in
theorem l_DS_36 : xLk "DataShrinker" 36 y_Ma_init.1 := Or.inl (xtbm (List.mem_of_getElem? (i := 328) rfl) rfl)
set_option maxRecDepth 20000 in
theorem l_Lw_13 : xLk "DataShrinkerLaw" 13 y_DS_item.1 := Or.inl (xtbm (List.mem_of_getElem? (i := 394) rfl) rfl)
set_option maxRecDepth 20000 in
theorem l_DS_41 : xLk "DataShrinker" 41 y_Pr_isItem.1 := Or.inl (xtbm (List.mem_of_getElem? (i := 398) rfl) rfl)
set_option maxRecDepth 20000 in
theorem l_Pr_56 : xLk "DataShrinker$Program" 56 y_DS_isItemNumber.1 := Or.inr ⟨"DataShrinker", List.mem_of_getElem? (i := 3) rfl⟩
set_option maxRecDepth 20000 in
theorem l_Pr_60 : xLk "DataShrinker$Program" 60 y_DS_within.1 := Or.inr ⟨"DataShrinker", List.mem_of_getElem? (i := 4) rfl⟩
set_option maxRecDepth 20000 in
theorem l_DS_45 : xLk "DataShrinker" 45 y_Pr_tellItem.1 := Or.inl (xtbm (List.mem_of_getElem? (i := 407) rfl) rfl)
set_option maxRecDepth 20000 in
theorem l_Pr_72 : xLk "DataShrinker$Program" 72 y_Pr_forgetReferencesTo.1 := Or.inl (xtbm (List.mem_of_getElem? (i := 411) rfl) rfl)
set_option maxRecDepth 20000 in
theorem l_Lw_20 : xLk "DataShrinkerLaw" 20 y_DS_bytes.1 := Or.inl (xtbm (List.mem_of_getElem? (i := 416) rfl) rfl)
set_option maxRecDepth 20000 in
theorem l_DS_53 : xLk "DataShrinker" 53 y_Pr_hasPlace.1 := Or.inl (xtbm (List.mem_of_getElem? (i := 420) rfl) rfl)
set_option maxRecDepth 20000 in
theorem l_DS_57 : xLk "DataShrinker" 57 y_DS_within.1 := Or.inl (xtbm (List.mem_of_getElem? (i := 424) rfl) rfl)
set_option maxRecDepth 20000 in
theorem l_DS_61 : xLk "DataShrinker" 61 y_Pr_tellOctets.1 := Or.inl (xtbm (List.mem_of_getElem? (i := 425) rfl) rfl)
set_option maxRecDepth 20000 in
theorem l_Pr_76 : xLk "DataShrinker$Program" 76 y_JM_min.1 := Or.inl (xtbm (List.mem_of_getElem? (i := 429) rfl) rfl)
set_option maxRecDepth 20000 in
theorem l_Pr_82 : xLk "DataShrinker$Program" 82 y_DS_octetOf.1 := Or.inr ⟨"DataShrinker", List.mem_of_getElem? (i := 5) rfl⟩
set_option maxRecDepth 20000 in
theorem l_Lw_25 : xLk "DataShrinkerLaw" 25 y_DS_refer.1 := Or.inl (xtbm (List.mem_of_getElem? (i := 435) rfl) rfl)
set_option maxRecDepth 20000 in
theorem l_DS_65 : xLk "DataShrinker" 65 y_Pr_hasItem.1 := Or.inl (xtbm (List.mem_of_getElem? (i := 439) rfl) rfl)
set_option maxRecDepth 20000 in
theorem l_DS_69 : xLk "DataShrinker" 69 y_Pr_tellReference.1 := Or.inl (xtbm (List.mem_of_getElem? (i := 443) rfl) rfl)
set_option maxRecDepth 20000 in
theorem l_Lw_30 : xLk "DataShrinkerLaw" 30 y_DS_code.1 := Or.inl (xtbm (List.mem_of_getElem? (i := 447) rfl) rfl)
set_option maxRecDepth 20000 in
theorem l_DS_73 : xLk "DataShrinker" 73 y_DS_isFunction.1 := Or.inl (xtbm (List.mem_of_getElem? (i := 451) rfl) rfl)
set_option maxRecDepth 20000 in
theorem l_DS_76 : xLk "DataShrinker" 76 y_Pr_isInstruction.1 := Or.inl (xtbm (List.mem_of_getElem? (i := 454) rfl) rfl)
set_option maxRecDepth 20000 in
theorem l_Pr_64 : xLk "DataShrinker$Program" 64 y_DS_isRegister.1 := Or.inr ⟨"DataShrinker", List.mem_of_getElem? (i := 6) rfl⟩
set_option maxRecDepth 20000 in
theorem l_Pr_67 : xLk "DataShrinker$Program" 67 y_DS_isFunction.1 := Or.inr ⟨"DataShrinker", List.mem_of_getElem? (i := 7) rfl⟩
set_option maxRecDepth 20000 in
theorem l_DS_83 : xLk "DataShrinker" 83 y_Pr_addInstruction.1 := Or.inl (xtbm (List.mem_of_getElem? (i := 461) rfl) rfl)
set_option maxRecDepth 20000 in
theorem l_Lw_35 : xLk "DataShrinkerLaw" 35 y_DS_clear.1 := Or.inl (xtbm (List.mem_of_getElem? (i := 465) rfl) rfl)
set_option maxRecDepth 20000 in
theorem l_Lw_40 : xLk "DataShrinkerLaw" 40 y_DS_entry.1 := Or.inl (xtbm (List.mem_of_getElem? (i := 469) rfl) rfl)
set_option maxRecDepth 20000 in
theorem l_Lw_45 : xLk "DataShrinkerLaw" 45 y_DS_input1.1 := Or.inl (xtbm (List.mem_of_getElem? (i := 473) rfl) rfl)
set_option maxRecDepth 20000 in
theorem l_DS_95 : xLk "DataShrinker" 95 y_Pr_addInput.1 := Or.inl (xtbm (List.mem_of_getElem? (i := 477) rfl) rfl)
set_option maxRecDepth 20000 in
theorem l_Lw_50 : xLk "DataShrinkerLaw" 50 y_DS_input2.1 := Or.inl (xtbm (List.mem_of_getElem? (i := 481) rfl) rfl)
set_option maxRecDepth 20000 in
theorem l_Lw_54 : xLk "DataShrinkerLaw" 54 y_DS_run.1 := Or.inl (xtbm (List.mem_of_getElem? (i := 485) rfl) rfl)
set_option maxRecDepth 20000 in
theorem l_DS_99 : xLk "DataShrinker" 99 y_Pr_hasEntry.1 := Or.inl (xtbm (List.mem_of_getElem? (i := 489) rfl) rfl)
set_option maxRecDepth 20000 in
theorem l_DS_102 : xLk "DataShrinker" 102 y_Ma_takeAsTold.1 := Or.inl (xtbm (List.mem_of_getElem? (i := 493) rfl) rfl)
set_option maxRecDepth 20000 in
theorem l_DS_105 : xLk "DataShrinker" 105 y_Ma_work.1 := Or.inl (xtbm (List.mem_of_getElem? (i := 500) rfl) rfl)
set_option maxRecDepth 20000 in
theorem l_Ma_78 : xLk "DataShrinker$Machine" 78 y_Ma_begin.1 := Or.inl (xtbm (List.mem_of_getElem? (i := 504) rfl) rfl)
set_option maxRecDepth 20000 in
theorem l_Ma_96 : xLk "DataShrinker$Machine" 96 y_JA_fill1.1 := Or.inl (xtbm (List.mem_of_getElem? (i := 508) rfl) rfl)
set_option maxRecDepth 20000 in
theorem l_Ma_89 : xLk "DataShrinker$Machine" 89 y_Ma_leave.1 := Or.inl (xtbm (List.mem_of_getElem? (i := 512) rfl) rfl)
set_option maxRecDepth 20000 in
theorem l_Ma_92 : xLk "DataShrinker$Machine" 92 y_Ma_carryOut.1 := Or.inl (xtbm (List.mem_of_getElem? (i := 516) rfl) rfl)
set_option maxRecDepth 20000 in
theorem l_Ma_117 : xLk "DataShrinker$Machine" 117 y_Ma_put.1 := Or.inl (xtbm (List.mem_of_getElem? (i := 520) rfl) rfl)
set_option maxRecDepth 20000 in
theorem l_Ma_120 : xLk "DataShrinker$Machine" 120 y_JM_floorMod.1 := Or.inl (xtbm (List.mem_of_getElem? (i := 524) rfl) rfl)
set_option maxRecDepth 20000 in
theorem l_Ma_123 : xLk "DataShrinker$Machine" 123 y_Ma_load.1 := Or.inl (xtbm (List.mem_of_getElem? (i := 527) rfl) rfl)
set_option maxRecDepth 20000 in
theorem l_Ma_154 : xLk "DataShrinker$Machine" 154 y_Pr_hasPlace.1 := Or.inl (xtbm (List.mem_of_getElem? (i := 531) rfl) rfl)
set_option maxRecDepth 20000 in
theorem l_Ma_127 : xLk "DataShrinker$Machine" 127 y_Ma_store.1 := Or.inl (xtbm (List.mem_of_getElem? (i := 532) rfl) rfl)
set_option maxRecDepth 20000 in
theorem l_Ma_130 : xLk "DataShrinker$Machine" 130 y_Ma_openFunction.1 := Or.inl (xtbm (List.mem_of_getElem? (i := 536) rfl) rfl)
set_option maxRecDepth 20000 in
theorem l_Ma_133 : xLk "DataShrinker$Machine" 133 y_Ma_skip.1 := Or.inl (xtbm (List.mem_of_getElem? (i := 540) rfl) rfl)
set_option maxRecDepth 20000 in
theorem l_Ma_136 : xLk "DataShrinker$Machine" 136 y_Ma_send.1 := Or.inl (xtbm (List.mem_of_getElem? (i := 544) rfl) rfl)
set_option maxRecDepth 20000 in
theorem l_Ma_139 : xLk "DataShrinker$Machine" 139 y_Ma_takeInput.1 := Or.inl (xtbm (List.mem_of_getElem? (i := 548) rfl) rfl)
set_option maxRecDepth 20000 in
theorem l_Ma_143 : xLk "DataShrinker$Machine" 143 y_Ma_standAsOne.1 := Or.inl (xtbm (List.mem_of_getElem? (i := 552) rfl) rfl)
set_option maxRecDepth 20000 in
theorem l_Ma_147 : xLk "DataShrinker$Machine" 147 y_DS_asNumber.1 := Or.inr ⟨"DataShrinker", List.mem_of_getElem? (i := 8) rfl⟩
set_option maxRecDepth 20000 in
theorem l_Ma_151 : xLk "DataShrinker$Machine" 151 y_Ma_follow.1 := Or.inl (xtbm (List.mem_of_getElem? (i := 559) rfl) rfl)
set_option maxRecDepth 20000 in
theorem l_Ma_163 : xLk "DataShrinker$Machine" 163 y_Pr_hasReference.1 := Or.inl (xtbm (List.mem_of_getElem? (i := 563) rfl) rfl)
set_option maxRecDepth 20000 in
theorem l_Lw_58 : xLk "DataShrinkerLaw" 58 y_DS_runLaid.1 := Or.inl (xtbm (List.mem_of_getElem? (i := 567) rfl) rfl)
set_option maxRecDepth 20000 in
theorem l_DS_109 : xLk "DataShrinker" 109 y_Ma_takeAsLaid.1 := Or.inl (xtbm (List.mem_of_getElem? (i := 571) rfl) rfl)
set_option maxRecDepth 20000 in
theorem l_Lw_62 : xLk "DataShrinkerLaw" 62 y_DS_ran.1 := Or.inl (xtbm (List.mem_of_getElem? (i := 575) rfl) rfl)
set_option maxRecDepth 20000 in
theorem l_DS_113 : xLk "DataShrinker" 113 y_Ma_tell.1 := Or.inl (xtbm (List.mem_of_getElem? (i := 579) rfl) rfl)
set_option maxRecDepth 20000 in
theorem l_Lw_66 : xLk "DataShrinkerLaw" 66 y_DS_out.1 := Or.inl (xtbm (List.mem_of_getElem? (i := 583) rfl) rfl)
set_option maxRecDepth 20000 in
theorem l_DS_116 : xLk "DataShrinker" 116 y_Ma_sentAt.1 := Or.inl (xtbm (List.mem_of_getElem? (i := 587) rfl) rfl)
set_option maxRecDepth 20000 in
theorem l_Ma_68 : xLk "DataShrinker$Machine" 68 y_JM_min.1 := Or.inl (xtbm (List.mem_of_getElem? (i := 591) rfl) rfl)
set_option maxRecDepth 20000 in
theorem l_Ma_74 : xLk "DataShrinker$Machine" 74 y_DS_within.1 := Or.inr ⟨"DataShrinker", List.mem_of_getElem? (i := 9) rfl⟩
set_option maxRecDepth 20000 in
theorem l_Lw_70 : xLk "DataShrinkerLaw" 70 y_DS_shrink.1 := Or.inl (xtbm (List.mem_of_getElem? (i := 593) rfl) rfl)
set_option maxRecDepth 20000 in
theorem l_DS_119 : xLk "DataShrinker" 119 y_Re_work.1 := Or.inl (xtbm (List.mem_of_getElem? (i := 597) rfl) rfl)
set_option maxRecDepth 20000 in
theorem l_Re_57 : xLk "DataShrinker$Reach" 57 y_Re_forget.1 := Or.inl (xtbm (List.mem_of_getElem? (i := 601) rfl) rfl)
set_option maxRecDepth 20000 in
theorem l_Re_102 : xLk "DataShrinker$Reach" 102 y_Ch_forget.1 := Or.inl (xtbm (List.mem_of_getElem? (i := 605) rfl) rfl)
set_option maxRecDepth 20000 in
theorem l_Ch_19 : xLk "DataShrinker$Chains" 19 y_JA_fill2.1 := Or.inl (xtbm (List.mem_of_getElem? (i := 609) rfl) rfl)
set_option maxRecDepth 20000 in
theorem l_Re_103 : xLk "DataShrinker$Reach" 103 y_Re_forgetStates.1 := Or.inl (xtbm (List.mem_of_getElem? (i := 612) rfl) rfl)
set_option maxRecDepth 20000 in
theorem l_Re_95 : xLk "DataShrinker$Reach" 95 y_Re_setAt.1 := Or.inl (xtbm (List.mem_of_getElem? (i := 616) rfl) rfl)
set_option maxRecDepth 20000 in
theorem l_Re_119 : xLk "DataShrinker$Reach" 119 y_JA_fill3.1 := Or.inl (xtbm (List.mem_of_getElem? (i := 619) rfl) rfl)
set_option maxRecDepth 20000 in
theorem l_Re_106 : xLk "DataShrinker$Reach" 106 y_JA_fill2.1 := Or.inl (xtbm (List.mem_of_getElem? (i := 625) rfl) rfl)
set_option maxRecDepth 20000 in
theorem l_Re_60 : xLk "DataShrinker$Reach" 60 y_Re_standAsTold.1 := Or.inl (xtbm (List.mem_of_getElem? (i := 627) rfl) rfl)
set_option maxRecDepth 20000 in
theorem l_Re_122 : xLk "DataShrinker$Reach" 122 y_Re_standAt.1 := Or.inl (xtbm (List.mem_of_getElem? (i := 631) rfl) rfl)
set_option maxRecDepth 20000 in
theorem l_Re_131 : xLk "DataShrinker$Reach" 131 y_OS_add.1 := Or.inl (xtbm (List.mem_of_getElem? (i := 634) rfl) rfl)
set_option maxRecDepth 20000 in
theorem l_Re_63 : xLk "DataShrinker$Reach" 63 y_Re_findSites.1 := Or.inl (xtbm (List.mem_of_getElem? (i := 637) rfl) rfl)
set_option maxRecDepth 20000 in
theorem l_Re_135 : xLk "DataShrinker$Reach" 135 y_Re_wakerOf.1 := Or.inl (xtbm (List.mem_of_getElem? (i := 641) rfl) rfl)
set_option maxRecDepth 20000 in
theorem l_Re_66 : xLk "DataShrinker$Reach" 66 y_Re_beginAtEntries.1 := Or.inl (xtbm (List.mem_of_getElem? (i := 645) rfl) rfl)
set_option maxRecDepth 20000 in
theorem l_Re_148 : xLk "DataShrinker$Reach" 148 y_OS_makeOnly.1 := Or.inl (xtbm (List.mem_of_getElem? (i := 649) rfl) rfl)
set_option maxRecDepth 20000 in
theorem l_OS_9 : xLk "DataShrinker$OctetSet" 9 y_JA_fill2.1 := Or.inl (xtbm (List.mem_of_getElem? (i := 652) rfl) rfl)
set_option maxRecDepth 20000 in
theorem l_OS_15 : xLk "DataShrinker$OctetSet" 15 y_OS_add.1 := Or.inl (xtbm (List.mem_of_getElem? (i := 653) rfl) rfl)
set_option maxRecDepth 20000 in
theorem l_Re_152 : xLk "DataShrinker$Reach" 152 y_Re_placeIn.1 := Or.inl (xtbm (List.mem_of_getElem? (i := 654) rfl) rfl)
set_option maxRecDepth 20000 in
theorem l_Re_91 : xLk "DataShrinker$Reach" 91 y_Re_slotOf.1 := Or.inl (xtbm (List.mem_of_getElem? (i := 658) rfl) rfl)
set_option maxRecDepth 20000 in
theorem l_Re_155 : xLk "DataShrinker$Reach" 155 y_OS_join.1 := Or.inl (xtbm (List.mem_of_getElem? (i := 661) rfl) rfl)
set_option maxRecDepth 20000 in
theorem l_Re_159 : xLk "DataShrinker$Reach" 159 y_Re_arriveAt.1 := Or.inl (xtbm (List.mem_of_getElem? (i := 665) rfl) rfl)
set_option maxRecDepth 20000 in
theorem l_Re_70 : xLk "DataShrinker$Reach" 70 y_Re_goRound.1 := Or.inl (xtbm (List.mem_of_getElem? (i := 670) rfl) rfl)
set_option maxRecDepth 20000 in
theorem l_Re_163 : xLk "DataShrinker$Reach" 163 y_JL_numberOfTrailingZeros.1 := Or.inl (xtbm (List.mem_of_getElem? (i := 674) rfl) rfl)
set_option maxRecDepth 20000 in
theorem l_JL_311 : xLk "java/lang/Long" 311 y_JI_numberOfTrailingZeros.1 := Or.inl (xtbm (List.mem_of_getElem? (i := 677) rfl) rfl)
set_option maxRecDepth 20000 in
theorem l_Re_168 : xLk "DataShrinker$Reach" 168 y_Re_takeOn.1 := Or.inl (xtbm (List.mem_of_getElem? (i := 682) rfl) rfl)
set_option maxRecDepth 20000 in
theorem l_Re_171 : xLk "DataShrinker$Reach" 171 y_Re_wake.1 := Or.inl (xtbm (List.mem_of_getElem? (i := 686) rfl) rfl)
set_option maxRecDepth 20000 in
theorem l_Re_178 : xLk "DataShrinker$Reach" 178 y_Re_takeStore.1 := Or.inl (xtbm (List.mem_of_getElem? (i := 690) rfl) rfl)
set_option maxRecDepth 20000 in
theorem l_Re_216 : xLk "DataShrinker$Reach" 216 y_Re_placesIn.1 := Or.inl (xtbm (List.mem_of_getElem? (i := 694) rfl) rfl)
set_option maxRecDepth 20000 in
theorem l_Re_220 : xLk "DataShrinker$Reach" 220 y_Pr_placesOf.1 := Or.inl (xtbm (List.mem_of_getElem? (i := 698) rfl) rfl)
set_option maxRecDepth 20000 in
theorem l_Re_182 : xLk "DataShrinker$Reach" 182 y_Re_flow.1 := Or.inl (xtbm (List.mem_of_getElem? (i := 702) rfl) rfl)
set_option maxRecDepth 20000 in
theorem l_Re_186 : xLk "DataShrinker$Reach" 186 y_Re_takeCall.1 := Or.inl (xtbm (List.mem_of_getElem? (i := 706) rfl) rfl)
set_option maxRecDepth 20000 in
theorem l_Re_224 : xLk "DataShrinker$Reach" 224 y_Ch_link.1 := Or.inl (xtbm (List.mem_of_getElem? (i := 710) rfl) rfl)
set_option maxRecDepth 20000 in
theorem l_Re_190 : xLk "DataShrinker$Reach" 190 y_Re_takeNought.1 := Or.inl (xtbm (List.mem_of_getElem? (i := 714) rfl) rfl)
set_option maxRecDepth 20000 in
theorem l_Re_193 : xLk "DataShrinker$Reach" 193 y_Re_makeRest.1 := Or.inl (xtbm (List.mem_of_getElem? (i := 718) rfl) rfl)
set_option maxRecDepth 20000 in
theorem l_Re_229 : xLk "DataShrinker$Reach" 229 y_OS_isEmpty.1 := Or.inl (xtbm (List.mem_of_getElem? (i := 723) rfl) rfl)
set_option maxRecDepth 20000 in
theorem l_Re_197 : xLk "DataShrinker$Reach" 197 y_Re_takeLoad.1 := Or.inl (xtbm (List.mem_of_getElem? (i := 726) rfl) rfl)
set_option maxRecDepth 20000 in
theorem l_Re_200 : xLk "DataShrinker$Reach" 200 y_Re_takeFollow.1 := Or.inl (xtbm (List.mem_of_getElem? (i := 730) rfl) rfl)
set_option maxRecDepth 20000 in
theorem l_Re_203 : xLk "DataShrinker$Reach" 203 y_Re_makeSimple.1 := Or.inl (xtbm (List.mem_of_getElem? (i := 734) rfl) rfl)
set_option maxRecDepth 20000 in
theorem l_Re_206 : xLk "DataShrinker$Reach" 206 y_OS_makeSums.1 := Or.inl (xtbm (List.mem_of_getElem? (i := 738) rfl) rfl)
set_option maxRecDepth 20000 in
theorem l_OS_23 : xLk "DataShrinker$OctetSet" 23 y_JM_floorMod.1 := Or.inl (xtbm (List.mem_of_getElem? (i := 741) rfl) rfl)
set_option maxRecDepth 20000 in
theorem l_Re_210 : xLk "DataShrinker$Reach" 210 y_OS_makeMasked.1 := Or.inl (xtbm (List.mem_of_getElem? (i := 742) rfl) rfl)
set_option maxRecDepth 20000 in
theorem l_OS_39 : xLk "DataShrinker$OctetSet" 39 y_OS_foldWords.1 := Or.inl (xtbm (List.mem_of_getElem? (i := 748) rfl) rfl)
set_option maxRecDepth 20000 in
theorem l_OS_43 : xLk "DataShrinker$OctetSet" 43 y_OS_moveWord.1 := Or.inl (xtbm (List.mem_of_getElem? (i := 751) rfl) rfl)
set_option maxRecDepth 20000 in
theorem l_Re_213 : xLk "DataShrinker$Reach" 213 y_Re_takeSame.1 := Or.inl (xtbm (List.mem_of_getElem? (i := 754) rfl) rfl)
set_option maxRecDepth 20000 in
theorem l_Re_233 : xLk "DataShrinker$Reach" 233 y_DS_asNumber.1 := Or.inr ⟨"DataShrinker", List.mem_of_getElem? (i := 10) rfl⟩
set_option maxRecDepth 20000 in
theorem l_Re_79 : xLk "DataShrinker$Reach" 79 y_Ch_measure.1 := Or.inl (xtbm (List.mem_of_getElem? (i := 759) rfl) rfl)
set_option maxRecDepth 20000 in
theorem l_Ch_25 : xLk "DataShrinker$Chains" 25 y_JA_fill1.1 := Or.inl (xtbm (List.mem_of_getElem? (i := 763) rfl) rfl)
set_option maxRecDepth 20000 in
theorem l_Ch_28 : xLk "DataShrinker$Chains" 28 y_Ch_stepOn.1 := Or.inl (xtbm (List.mem_of_getElem? (i := 764) rfl) rfl)
set_option maxRecDepth 20000 in
theorem l_DS_121 : xLk "DataShrinker" 121 y_La_work.1 := Or.inl (xtbm (List.mem_of_getElem? (i := 769) rfl) rfl)
set_option maxRecDepth 20000 in
theorem l_La_55 : xLk "DataShrinker$Layout" 55 y_La_begin.1 := Or.inl (xtbm (List.mem_of_getElem? (i := 773) rfl) rfl)
set_option maxRecDepth 20000 in
theorem l_La_103 : xLk "DataShrinker$Layout" 103 y_JA_fill1.1 := Or.inl (xtbm (List.mem_of_getElem? (i := 778) rfl) rfl)
set_option maxRecDepth 20000 in
theorem l_La_58 : xLk "DataShrinker$Layout" 58 y_La_keepItems.1 := Or.inl (xtbm (List.mem_of_getElem? (i := 779) rfl) rfl)
set_option maxRecDepth 20000 in
theorem l_La_61 : xLk "DataShrinker$Layout" 61 y_La_keepGroups.1 := Or.inl (xtbm (List.mem_of_getElem? (i := 783) rfl) rfl)
set_option maxRecDepth 20000 in
theorem l_La_64 : xLk "DataShrinker$Layout" 64 y_La_findStill.1 := Or.inl (xtbm (List.mem_of_getElem? (i := 787) rfl) rfl)
set_option maxRecDepth 20000 in
theorem l_La_67 : xLk "DataShrinker$Layout" 67 y_La_joinAlike.1 := Or.inl (xtbm (List.mem_of_getElem? (i := 791) rfl) rfl)
set_option maxRecDepth 20000 in
theorem l_La_130 : xLk "DataShrinker$Layout" 130 y_La_standsStill.1 := Or.inl (xtbm (List.mem_of_getElem? (i := 795) rfl) rfl)
set_option maxRecDepth 20000 in
theorem l_La_133 : xLk "DataShrinker$Layout" 133 y_La_endsWith.1 := Or.inl (xtbm (List.mem_of_getElem? (i := 799) rfl) rfl)
set_option maxRecDepth 20000 in
theorem l_La_137 : xLk "DataShrinker$Layout" 137 y_JM_max.1 := Or.inl (xtbm (List.mem_of_getElem? (i := 803) rfl) rfl)
set_option maxRecDepth 20000 in
theorem l_La_70 : xLk "DataShrinker$Layout" 70 y_La_layTails.1 := Or.inl (xtbm (List.mem_of_getElem? (i := 806) rfl) rfl)
set_option maxRecDepth 20000 in
theorem l_La_144 : xLk "DataShrinker$Layout" 144 y_La_holdsAny.1 := Or.inl (xtbm (List.mem_of_getElem? (i := 810) rfl) rfl)
set_option maxRecDepth 20000 in
theorem l_La_147 : xLk "DataShrinker$Layout" 147 y_La_findOuter.1 := Or.inl (xtbm (List.mem_of_getElem? (i := 814) rfl) rfl)
set_option maxRecDepth 20000 in
theorem l_La_151 : xLk "DataShrinker$Layout" 151 y_La_fitsAlign.1 := Or.inl (xtbm (List.mem_of_getElem? (i := 818) rfl) rfl)
set_option maxRecDepth 20000 in
theorem l_La_73 : xLk "DataShrinker$Layout" 73 y_La_listBlocks.1 := Or.inl (xtbm (List.mem_of_getElem? (i := 822) rfl) rfl)
set_option maxRecDepth 20000 in
theorem l_La_158 : xLk "DataShrinker$Layout" 158 y_La_holderOf.1 := Or.inl (xtbm (List.mem_of_getElem? (i := 826) rfl) rfl)
set_option maxRecDepth 20000 in
theorem l_La_161 : xLk "DataShrinker$Layout" 161 y_BO_arrange.1 := Or.inl (xtbm (List.mem_of_getElem? (i := 830) rfl) rfl)
set_option maxRecDepth 20000 in
theorem l_BO_24 : xLk "DataShrinker$BlockOrder" 24 y_BO_measure.1 := Or.inl (xtbm (List.mem_of_getElem? (i := 835) rfl) rfl)
set_option maxRecDepth 20000 in
theorem l_BO_37 : xLk "DataShrinker$BlockOrder" 37 y_BO_need.1 := Or.inl (xtbm (List.mem_of_getElem? (i := 840) rfl) rfl)
set_option maxRecDepth 20000 in
theorem l_BO_32 : xLk "DataShrinker$BlockOrder" 32 y_BO_gap.1 := Or.inl (xtbm (List.mem_of_getElem? (i := 844) rfl) rfl)
set_option maxRecDepth 20000 in
theorem l_BO_40 : xLk "DataShrinker$BlockOrder" 40 y_JM_min.1 := Or.inl (xtbm (List.mem_of_getElem? (i := 847) rfl) rfl)
set_option maxRecDepth 20000 in
theorem l_BO_28 : xLk "DataShrinker$BlockOrder" 28 y_BO_choose.1 := Or.inl (xtbm (List.mem_of_getElem? (i := 848) rfl) rfl)
set_option maxRecDepth 20000 in
theorem l_La_76 : xLk "DataShrinker$Layout" 76 y_La_placeBlocks.1 := Or.inl (xtbm (List.mem_of_getElem? (i := 852) rfl) rfl)
set_option maxRecDepth 20000 in
theorem l_La_168 : xLk "DataShrinker$Layout" 168 y_BO_gap.1 := Or.inl (xtbm (List.mem_of_getElem? (i := 856) rfl) rfl)
set_option maxRecDepth 20000 in
theorem l_La_79 : xLk "DataShrinker$Layout" 79 y_La_placeOthers.1 := Or.inl (xtbm (List.mem_of_getElem? (i := 857) rfl) rfl)
set_option maxRecDepth 20000 in
theorem l_La_82 : xLk "DataShrinker$Layout" 82 y_La_writeOctets.1 := Or.inl (xtbm (List.mem_of_getElem? (i := 861) rfl) rfl)
set_option maxRecDepth 20000 in
theorem l_Lw_74 : xLk "DataShrinkerLaw" 74 y_DS_kept.1 := Or.inl (xtbm (List.mem_of_getElem? (i := 865) rfl) rfl)
set_option maxRecDepth 20000 in
theorem l_DS_128 : xLk "DataShrinker" 128 y_DS_hadItem.1 := Or.inl (xtbm (List.mem_of_getElem? (i := 869) rfl) rfl)
set_option maxRecDepth 20000 in
theorem l_DS_212 : xLk "DataShrinker" 212 y_DS_isItemNumber.1 := Or.inl (xtbm (List.mem_of_getElem? (i := 873) rfl) rfl)
set_option maxRecDepth 20000 in
theorem l_DS_134 : xLk "DataShrinker" 134 y_DS_asNumber.1 := Or.inl (xtbm (List.mem_of_getElem? (i := 874) rfl) rfl)
set_option maxRecDepth 20000 in
theorem l_DS_142 : xLk "DataShrinker" 142 y_JL_bitCount.1 := Or.inl (xtbm (List.mem_of_getElem? (i := 875) rfl) rfl)
set_option maxRecDepth 20000 in
theorem l_DS_157 : xLk "DataShrinker" 157 y_La_holderOf.1 := Or.inl (xtbm (List.mem_of_getElem? (i := 881) rfl) rfl)
set_option maxRecDepth 20000 in
theorem l_Lw_79 : xLk "DataShrinkerLaw" 79 y_DS_read.1 := Or.inl (xtbm (List.mem_of_getElem? (i := 882) rfl) rfl)
set_option maxRecDepth 20000 in
theorem l_Lw_83 : xLk "DataShrinkerLaw" 83 y_DS_function.1 := Or.inl (xtbm (List.mem_of_getElem? (i := 886) rfl) rfl)
set_option maxRecDepth 20000 in
theorem l_DS_175 : xLk "DataShrinker" 175 y_Re_countComeTo.1 := Or.inl (xtbm (List.mem_of_getElem? (i := 890) rfl) rfl)
set_option maxRecDepth 20000 in
theorem l_Re_85 : xLk "DataShrinker$Reach" 85 y_JL_bitCount.1 := Or.inl (xtbm (List.mem_of_getElem? (i := 895) rfl) rfl)
set_option maxRecDepth 20000 in
theorem l_Lw_87 : xLk "DataShrinkerLaw" 87 y_DS_values.1 := Or.inl (xtbm (List.mem_of_getElem? (i := 896) rfl) rfl)
set_option maxRecDepth 20000 in
theorem l_DS_178 : xLk "DataShrinker" 178 y_DS_isRegister.1 := Or.inl (xtbm (List.mem_of_getElem? (i := 900) rfl) rfl)
set_option maxRecDepth 20000 in
theorem l_DS_182 : xLk "DataShrinker" 182 y_Re_countValues.1 := Or.inl (xtbm (List.mem_of_getElem? (i := 901) rfl) rfl)
set_option maxRecDepth 20000 in
theorem l_Re_98 : xLk "DataShrinker$Reach" 98 y_OS_count.1 := Or.inl (xtbm (List.mem_of_getElem? (i := 905) rfl) rfl)
set_option maxRecDepth 20000 in
theorem l_OS_46 : xLk "DataShrinker$OctetSet" 46 y_JL_bitCount.1 := Or.inl (xtbm (List.mem_of_getElem? (i := 908) rfl) rfl)
set_option maxRecDepth 20000 in
theorem l_Lw_92 : xLk "DataShrinkerLaw" 92 y_DS_octet.1 := Or.inl (xtbm (List.mem_of_getElem? (i := 909) rfl) rfl)
set_option maxRecDepth 20000 in
theorem l_Lw_96 : xLk "DataShrinkerLaw" 96 y_DS_shrunk.1 := Or.inl (xtbm (List.mem_of_getElem? (i := 913) rfl) rfl)
set_option maxRecDepth 20000 in
theorem l_DS_189 : xLk "DataShrinker" 189 y_La_countKept.1 := Or.inl (xtbm (List.mem_of_getElem? (i := 917) rfl) rfl)
set_option maxRecDepth 20000 in
theorem l_La_85 : xLk "DataShrinker$Layout" 85 y_DS_asNumber.1 := Or.inr ⟨"DataShrinker", List.mem_of_getElem? (i := 11) rfl⟩
set_option maxRecDepth 20000 in
theorem l_DS_193 : xLk "DataShrinker" 193 y_La_countDropped.1 := Or.inl (xtbm (List.mem_of_getElem? (i := 922) rfl) rfl)
set_option maxRecDepth 20000 in
theorem l_La_89 : xLk "DataShrinker$Layout" 89 y_La_isDropped.1 := Or.inl (xtbm (List.mem_of_getElem? (i := 926) rfl) rfl)
set_option maxRecDepth 20000 in
theorem l_DS_196 : xLk "DataShrinker" 196 y_La_countDroppedOctets.1 := Or.inl (xtbm (List.mem_of_getElem? (i := 930) rfl) rfl)
set_option maxRecDepth 20000 in
theorem l_DS_205 : xLk "DataShrinker" 205 y_DS_countOthers.1 := Or.inl (xtbm (List.mem_of_getElem? (i := 934) rfl) rfl)
set_option maxRecDepth 20000 in
theorem l_Lw_12 : xLk "DataShrinkerLaw" 12 y_Mo_init.1 := Or.inl (xtbm (List.mem_of_getElem? (i := 939) rfl) rfl)
set_option maxRecDepth 20000 in
theorem l_Lw_17 : xLk "DataShrinkerLaw" 17 y_Mo_item.1 := Or.inl (xtbm (List.mem_of_getElem? (i := 1120) rfl) rfl)
set_option maxRecDepth 20000 in
theorem l_Mo_157 : xLk "DataShrinkerModel" 157 y_Mo_in.1 := Or.inl (xtbm (List.mem_of_getElem? (i := 1124) rfl) rfl)
set_option maxRecDepth 20000 in
theorem l_Lw_24 : xLk "DataShrinkerLaw" 24 y_Mo_bytes.1 := Or.inl (xtbm (List.mem_of_getElem? (i := 1127) rfl) rfl)
set_option maxRecDepth 20000 in
theorem l_Mo_165 : xLk "DataShrinkerModel" 165 y_Mo_has.1 := Or.inl (xtbm (List.mem_of_getElem? (i := 1131) rfl) rfl)
set_option maxRecDepth 20000 in
theorem l_Lw_29 : xLk "DataShrinkerLaw" 29 y_Mo_refer.1 := Or.inl (xtbm (List.mem_of_getElem? (i := 1136) rfl) rfl)
set_option maxRecDepth 20000 in
theorem l_Lw_34 : xLk "DataShrinkerLaw" 34 y_Mo_code.1 := Or.inl (xtbm (List.mem_of_getElem? (i := 1140) rfl) rfl)
set_option maxRecDepth 20000 in
theorem l_Mo_178 : xLk "DataShrinkerModel" 178 y_Mo_isTold.1 := Or.inl (xtbm (List.mem_of_getElem? (i := 1144) rfl) rfl)
set_option maxRecDepth 20000 in
theorem l_Mo_171 : xLk "DataShrinkerModel" 171 y_Mo_isRegister.1 := Or.inl (xtbm (List.mem_of_getElem? (i := 1147) rfl) rfl)
set_option maxRecDepth 20000 in
theorem l_Mo_175 : xLk "DataShrinkerModel" 175 y_Mo_isItem.1 := Or.inl (xtbm (List.mem_of_getElem? (i := 1150) rfl) rfl)
set_option maxRecDepth 20000 in
theorem l_Lw_39 : xLk "DataShrinkerLaw" 39 y_Mo_clear.1 := Or.inl (xtbm (List.mem_of_getElem? (i := 1153) rfl) rfl)
set_option maxRecDepth 20000 in
theorem l_Lw_44 : xLk "DataShrinkerLaw" 44 y_Mo_entry.1 := Or.inl (xtbm (List.mem_of_getElem? (i := 1157) rfl) rfl)
set_option maxRecDepth 20000 in
theorem l_Lw_49 : xLk "DataShrinkerLaw" 49 y_Mo_input1.1 := Or.inl (xtbm (List.mem_of_getElem? (i := 1161) rfl) rfl)
set_option maxRecDepth 20000 in
theorem l_Lw_53 : xLk "DataShrinkerLaw" 53 y_Mo_input2.1 := Or.inl (xtbm (List.mem_of_getElem? (i := 1165) rfl) rfl)
set_option maxRecDepth 20000 in
theorem l_Lw_57 : xLk "DataShrinkerLaw" 57 y_Mo_run.1 := Or.inl (xtbm (List.mem_of_getElem? (i := 1169) rfl) rfl)
set_option maxRecDepth 20000 in
theorem l_Mo_201 : xLk "DataShrinkerModel" 201 y_Mo_goes.1 := Or.inl (xtbm (List.mem_of_getElem? (i := 1173) rfl) rfl)
set_option maxRecDepth 20000 in
theorem l_Mo_197 : xLk "DataShrinkerModel" 197 y_Mo_place.1 := Or.inl (xtbm (List.mem_of_getElem? (i := 1177) rfl) rfl)
set_option maxRecDepth 20000 in
theorem l_Lw_61 : xLk "DataShrinkerLaw" 61 y_Mo_runLaid.1 := Or.inl (xtbm (List.mem_of_getElem? (i := 1181) rfl) rfl)
set_option maxRecDepth 20000 in
theorem l_Lw_65 : xLk "DataShrinkerLaw" 65 y_Mo_ran.1 := Or.inl (xtbm (List.mem_of_getElem? (i := 1185) rfl) rfl)
set_option maxRecDepth 20000 in
theorem l_Lw_69 : xLk "DataShrinkerLaw" 69 y_Mo_out.1 := Or.inl (xtbm (List.mem_of_getElem? (i := 1189) rfl) rfl)
set_option maxRecDepth 20000 in
theorem l_Lw_73 : xLk "DataShrinkerLaw" 73 y_Mo_shrink.1 := Or.inl (xtbm (List.mem_of_getElem? (i := 1193) rfl) rfl)
set_option maxRecDepth 20000 in
theorem l_Mo_289 : xLk "DataShrinkerModel" 289 y_Mo_reach.1 := Or.inl (xtbm (List.mem_of_getElem? (i := 1197) rfl) rfl)
set_option maxRecDepth 20000 in
theorem l_Mo_234 : xLk "DataShrinkerModel" 234 y_Mo_comes.1 := Or.inl (xtbm (List.mem_of_getElem? (i := 1201) rfl) rfl)
set_option maxRecDepth 20000 in
theorem l_Mo_248 : xLk "DataShrinkerModel" 248 y_Mo_takes.1 := Or.inl (xtbm (List.mem_of_getElem? (i := 1205) rfl) rfl)
set_option maxRecDepth 20000 in
theorem l_Mo_218 : xLk "DataShrinkerModel" 218 y_Mo_returned.1 := Or.inl (xtbm (List.mem_of_getElem? (i := 1209) rfl) rfl)
set_option maxRecDepth 20000 in
theorem l_Mo_211 : xLk "DataShrinkerModel" 211 y_Mo_empty.1 := Or.inl (xtbm (List.mem_of_getElem? (i := 1213) rfl) rfl)
set_option maxRecDepth 20000 in
theorem l_Mo_222 : xLk "DataShrinkerModel" 222 y_Mo_put.1 := Or.inl (xtbm (List.mem_of_getElem? (i := 1217) rfl) rfl)
set_option maxRecDepth 20000 in
theorem l_Mo_225 : xLk "DataShrinkerModel" 225 y_Mo_gets.1 := Or.inl (xtbm (List.mem_of_getElem? (i := 1221) rfl) rfl)
set_option maxRecDepth 20000 in
theorem l_Mo_214 : xLk "DataShrinkerModel" 214 y_Mo_hasValue.1 := Or.inl (xtbm (List.mem_of_getElem? (i := 1225) rfl) rfl)
set_option maxRecDepth 20000 in
theorem l_Mo_228 : xLk "DataShrinkerModel" 228 y_Mo_loads.1 := Or.inl (xtbm (List.mem_of_getElem? (i := 1229) rfl) rfl)
set_option maxRecDepth 20000 in
theorem l_Mo_231 : xLk "DataShrinkerModel" 231 y_Mo_stores.1 := Or.inl (xtbm (List.mem_of_getElem? (i := 1233) rfl) rfl)
set_option maxRecDepth 20000 in
theorem l_Mo_238 : xLk "DataShrinkerModel" 238 y_Mo_skips.1 := Or.inl (xtbm (List.mem_of_getElem? (i := 1237) rfl) rfl)
set_option maxRecDepth 20000 in
theorem l_Mo_243 : xLk "DataShrinkerModel" 243 y_Mo_follows.1 := Or.inl (xtbm (List.mem_of_getElem? (i := 1243) rfl) rfl)
set_option maxRecDepth 20000 in
theorem l_Mo_292 : xLk "DataShrinkerModel" 292 y_Mo_keeps.1 := Or.inl (xtbm (List.mem_of_getElem? (i := 1247) rfl) rfl)
set_option maxRecDepth 20000 in
theorem l_Mo_251 : xLk "DataShrinkerModel" 251 y_Mo_reads.1 := Or.inl (xtbm (List.mem_of_getElem? (i := 1251) rfl) rfl)
set_option maxRecDepth 20000 in
theorem l_Mo_295 : xLk "DataShrinkerModel" 295 y_Mo_chains.1 := Or.inl (xtbm (List.mem_of_getElem? (i := 1255) rfl) rfl)
set_option maxRecDepth 20000 in
theorem l_Mo_254 : xLk "DataShrinkerModel" 254 y_Mo_leads.1 := Or.inl (xtbm (List.mem_of_getElem? (i := 1259) rfl) rfl)
set_option maxRecDepth 20000 in
theorem l_Mo_257 : xLk "DataShrinkerModel" 257 y_Mo_readsBy.1 := Or.inl (xtbm (List.mem_of_getElem? (i := 1263) rfl) rfl)
set_option maxRecDepth 20000 in
theorem l_Mo_298 : xLk "DataShrinkerModel" 298 y_Mo_lays.1 := Or.inl (xtbm (List.mem_of_getElem? (i := 1267) rfl) rfl)
set_option maxRecDepth 20000 in
theorem l_Mo_280 : xLk "DataShrinkerModel" 280 y_Mo_joins.1 := Or.inl (xtbm (List.mem_of_getElem? (i := 1271) rfl) rfl)
set_option maxRecDepth 20000 in
theorem l_Mo_261 : xLk "DataShrinkerModel" 261 y_Mo_refers.1 := Or.inl (xtbm (List.mem_of_getElem? (i := 1275) rfl) rfl)
set_option maxRecDepth 20000 in
theorem l_Mo_264 : xLk "DataShrinkerModel" 264 y_Mo_endsWith.1 := Or.inl (xtbm (List.mem_of_getElem? (i := 1279) rfl) rfl)
set_option maxRecDepth 20000 in
theorem l_Mo_283 : xLk "DataShrinkerModel" 283 y_Mo_tries.1 := Or.inl (xtbm (List.mem_of_getElem? (i := 1283) rfl) rfl)
set_option maxRecDepth 20000 in
theorem l_Mo_276 : xLk "DataShrinkerModel" 276 y_Mo_bytesOf.1 := Or.inl (xtbm (List.mem_of_getElem? (i := 1287) rfl) rfl)
set_option maxRecDepth 20000 in
theorem l_Mo_270 : xLk "DataShrinkerModel" 270 y_Mo_next.1 := Or.inl (xtbm (List.mem_of_getElem? (i := 1291) rfl) rfl)
set_option maxRecDepth 20000 in
theorem l_Lw_78 : xLk "DataShrinkerLaw" 78 y_Mo_kept.1 := Or.inl (xtbm (List.mem_of_getElem? (i := 1294) rfl) rfl)
set_option maxRecDepth 20000 in
theorem l_Mo_301 : xLk "DataShrinkerModel" 301 y_Mo_wasItem.1 := Or.inl (xtbm (List.mem_of_getElem? (i := 1298) rfl) rfl)
set_option maxRecDepth 20000 in
theorem l_Lw_82 : xLk "DataShrinkerLaw" 82 y_Mo_read.1 := Or.inl (xtbm (List.mem_of_getElem? (i := 1302) rfl) rfl)
set_option maxRecDepth 20000 in
theorem l_Lw_86 : xLk "DataShrinkerLaw" 86 y_Mo_function.1 := Or.inl (xtbm (List.mem_of_getElem? (i := 1306) rfl) rfl)
set_option maxRecDepth 20000 in
theorem l_Lw_91 : xLk "DataShrinkerLaw" 91 y_Mo_values.1 := Or.inl (xtbm (List.mem_of_getElem? (i := 1310) rfl) rfl)
set_option maxRecDepth 20000 in
theorem l_Lw_95 : xLk "DataShrinkerLaw" 95 y_Mo_octet.1 := Or.inl (xtbm (List.mem_of_getElem? (i := 1314) rfl) rfl)
set_option maxRecDepth 20000 in
theorem l_Lw_99 : xLk "DataShrinkerLaw" 99 y_Mo_shrunk.1 := Or.inl (xtbm (List.mem_of_getElem? (i := 1318) rfl) rfl)
end
section
/-! All made: the machine as the methods use it -/
def xF (l : Launch) (G : xG) (Y : xMD) (pc : Nat) (lv : xLv) (st : List Value) (M : xMe) (Q : Option Value → xMe → Prop) : Prop := xC l G Y pc lv st M none 0 0 (fun r M' g' => g' = none ∧ Q r M')
def xE (l : Launch) (G : xG) (Y : xMD) (a : List Value) (M : xMe) (Q : Option Value → xMe → Prop) : Prop := xT l G Y a M none (fun r M' g' => g' = none ∧ Q r M')
/-- the method's start by its name, not its class's -/
theorem xT_off {l : Launch} {G : xG} {Y : xMD} {a : List Value} {M : xMe} {g : xGh} {Q : Option Value → xMe → xGh → Prop} (hpl : plainFor Y.1 = true) (hlen : (xarg a).length ≤ yL Y) (h : xC l G Y 0 (xarg a) [] M g 0 0 Q) : xT l G Y a M g Q := by
  unfold xT Met
  refine MetFree.of_bodySF (code := yB Y) (maxLocals := yL Y) (ret := yT Y) hpl ?_ ?_
  · intro args s m h hn
    obtain ⟨meth, c, h1, h2, h3, h4, h5, h6, -, -⟩ := Cond.code_spec hn (atoms_spec (ws := xws Y) h _ List.mem_cons_self)
    exact ⟨meth, c, h1, h2, h3, h4, h5, h6⟩
  · intro p e s m args below meth c s₁ B hml hP _
    obtain ⟨rfl, hR, hb, hz, hN⟩ := hP
    have hl := lv_entry (a.map (xcv G)) (n := yL Y) (by rw [xsl_len]; exact hlen)
    have hts := atoms_spec (ws := xws Y) B.pre
    have hh0 : s₁.heap = s.heap := by rw [B.state]; rfl
    have hW := h p e s m (a.map (xcv G)).toArray below meth c ⟨B.exec, B.bytes, B.returns, hml, findClass_of_methodNamed B.named, fun w hw => hts w (List.mem_cons_of_mem _ hw), B.notSynchronized, (name_of_methodNamed B.named B.method).1, hb, hN⟩ hz s.heap [] _ hR va_S.rf ⟨hl.1, hl.2.1, fun i v hi => hl.2.2 _ (xarg_get a 0 i v hi)⟩
    obtain ⟨t, a1, o, b1, b2, b3⟩ := hW s₁ hh0 (Stand.of_body B)
    refine ⟨t, o, ?_, b1, b2, ⟨b3.1, b3.2⟩⟩
    rw [lg_entry_eq]
    exact a1
def xpd : Nat → xLv → xLv
  | 0, _ => []
  | n + 1, [] => none :: xpd n []
  | n + 1, a :: l => a :: xpd n l
theorem xpd_get : ∀ (n : Nat) (l : xLv) (i : Nat) (v : Value), xlg (xpd n l) i = some v → xlg l i = some v
  | 0, _, _, _, h => by simp [xpd, xlg] at h
  | n + 1, [], 0, _, h => by simp [xpd, xlg] at h
  | n + 1, [], i + 1, v, h => by
    have := xpd_get n [] i v h
    simp [xlg] at this
  | n + 1, a :: l, 0, v, h => h
  | n + 1, a :: l, i + 1, v, h => xpd_get n l i v h
theorem xE_of {l : Launch} {G : xG} {Y : xMD} {a : List Value} {M : xMe} {Q : Option Value → xMe → Prop} (lv : xLv) (hpl : plainFor Y.1 = true) (hlen : (xarg a).length ≤ yL Y) (hlv : xpd (yL Y) (xarg a) = lv) (h : xF l G Y 0 lv [] M Q) : xE l G Y a M Q := by
  subst hlv
  exact xT_off hpl hlen (xc_lv (fun i v hi => xpd_get _ _ i v hi) h)
theorem xF_go {l : Launch} {G : xG} {Y : xMD} {k : xK} {all : List xRw} (ok : xOK Y k all) (stops : List Nat) (n : Nat) {pc : Nat} {lv : xLv} {st : List Value} {M : xMe} {Q : Option Value → xMe → Prop} (h : ∀ K : Nat → xLv → List Value → xMe → Prop, (∀ pc lv st M, xF l G Y pc lv st M Q → K pc lv st M) → xwp G (yL Y) all stops n (xjmp all pc) lv st M K) : xF l G Y pc lv st M Q := by
  have h1 := h (fun pc lv st M => xF l G Y pc lv st M Q) (fun _ _ _ _ z => z)
  cases hj : xjmp all pc with
  | nil =>
    rw [hj] at h1
    cases n <;> exact h1.elim
  | cons r rs =>
    rw [hj] at h1
    obtain ⟨r', t', e, hC⟩ := xwp_ok ok n _ _ _ _ _ (xchk_jmp _ _ _ _ ok.2 hj) (fun _ _ _ _ z => z) h1
    cases e
    rw [xjmp_hd _ _ _ _ hj] at hC
    exact hC
/-- the instruction at a place -/
def xat (all : List xRw) (pc : Nat) : Option Instr := match xjmp all pc with
  | r :: _ :: _ => some r.2.1
  | _ => none
theorem xat_dec {Y : xMD} {k : xK} {all : List xRw} (ok : xOK Y k all) {pc : Nat} {ins : Instr} (h : xat all pc = some ins) (hs : xissw ins = false) : decode (yB Y) pc = .ok (ins, xlen ins) := by
  unfold xat at h
  split at h
  · rename_i r r2 rs hj
    have hc := xchk_jmp _ _ _ _ ok.2 hj
    have e1 := xjmp_hd _ _ _ _ hj
    obtain ⟨p, i, a1, a2, v⟩ := r
    cases h
    subst e1
    exact (xchk_n hc hs).1
  · cases h
section XX
variable {l : Launch} {G : xG} {Y Z : xMD} {k : xK} {all : List xRw} {pc : Nat} {lv : xLv} {st r : List Value} {M : xMe} {Q Q1 : Option Value → xMe → Prop}
theorem xF_iret {x : Int32} (ok : xOK Y k all) (hi : xat all pc = some .ireturn) (ht : yT Y = some .int) (h : Q (some (.int x)) M) : xF l G Y pc lv [.int x] M Q := xc_iret ht (Nat.zero_le _) (Nat.zero_le _) (xat_dec ok hi rfl) ⟨rfl, h⟩
theorem xF_zret {x : Int32} (ok : xOK Y k all) (hi : xat all pc = some .ireturn) (ht : yT Y = some .boolean) (hb : x = 0 ∨ x = 1) (h : Q (some (.int x)) M) : xF l G Y pc lv [.int x] M Q := xc_zret ht hb (Nat.zero_le _) (Nat.zero_le _) (xat_dec ok hi rfl) ⟨rfl, h⟩
theorem xF_lret {x : Int64} (ok : xOK Y k all) (hi : xat all pc = some .lreturn) (ht : yT Y = some .long) (h : Q (some (.long x)) M) : xF l G Y pc lv [.long x] M Q := xc_lret ht (Nat.zero_le _) (Nat.zero_le _) (xat_dec ok hi rfl) ⟨rfl, h⟩
theorem xF_vret (ok : xOK Y k all) (hi : xat all pc = some .return_) (ht : yT Y = none) (h : Q none M) : xF l G Y pc lv [] M Q := xc_vret ht (Nat.zero_le _) (Nat.zero_le _) (xat_dec ok hi rfl) ⟨rfl, h⟩
/-- no cells are made: all rooms' cells are 0 -/
abbrev xRn (Y Z : xMD) : Prop := xRm Y Z ∧ (yR Z).cells = 0 ∧ (yR Z).slots = 0
theorem xF_callS (ok : xOK Y k all) (a : List Value) {i n : Nat} (hi : xat all pc = some (.invokestatic i)) (hZ : xZ Z n) (hst : Cond.static Z.1 ∈ xtb) (hlk : xLk Y.1.cls i Z.1) (hn : a.length = n) (hrm : xRn Y Z) (hr : (r.map fun v => v.category).sum ≤ 8) (hs : st = a.reverse ++ r) (hT : xE l G Z a M Q1) (h : ∀ v M', Q1 v M' → xF l G Y (pc + 3) lv (v.toList ++ r) M' Q) : xF l G Y pc lv st M Q := by
  refine xc_callS a hZ hst hlk hn hrm.1 hr ⟨by rw [hrm.2.1]; exact Nat.zero_le _, by rw [hrm.2.2]; exact Nat.zero_le _⟩ hs (xat_dec ok hi rfl) hT (fun v M' g' hq => ?_)
  obtain ⟨rfl, hq⟩ := hq
  rw [hrm.2.1, hrm.2.2]
  exact ⟨trivial, h v M' hq⟩
theorem xF_callV (ok : xOK Y k all) (a : List Value) {i n c ci : Nat} (hi : xat all pc = some (.invokevirtual i)) (hZ : xZ Z n) (hin : Cond.instanceMethod Z.1 ∈ xtb) (hse : Cond.selects Z.1.cls Z.1 Z.1 ∈ xtb) (hlk : xLk Y.1.cls i Z.1) (hn : a.length = n) (hrm : xRn Y Z) (hr : (r.map fun v => v.category).sum ≤ 8) (hk : xkd c = ci + 3) (hci : (xcls[ci]?).map (fun q => q.1) = some Z.1.cls) (hs : st = a.reverse ++ .ref c :: r) (hT : xE l G Z (.ref c :: a) M Q1) (h : ∀ v M', Q1 v M' → xF l G Y (pc + 3) lv (v.toList ++ r) M' Q) : xF l G Y pc lv st M Q := by
  have hc8 : ci < 8 := by
    cases hq : xcls[ci]? with
    | none => rw [hq] at hci; cases hci
    | some q => exact xci_lt hq
  refine xc_callV a hZ hin hse hlk hn hrm.1 hr ⟨by rw [hrm.2.1]; exact Nat.zero_le _, by rw [hrm.2.2]; exact Nat.zero_le _⟩ hk hci (xkd_obj hk hc8) hs (xat_dec ok hi rfl) hT (fun v M' g' hq => ?_)
  obtain ⟨rfl, hq⟩ := hq
  rw [hrm.2.1, hrm.2.2]
  exact ⟨trivial, h v M' hq⟩
theorem xF_lv {lv' : xLv} (hv : ∀ i v, xlg lv' i = some v → xlg lv i = some v) (h : xF l G Y pc lv' st M Q) : xF l G Y pc lv st M Q := xc_lv hv h
theorem xE_post {a : List Value} (hQ : ∀ v M, Q1 v M → Q v M) (h : xE l G Y a M Q1) : xE l G Y a M Q := by
  intro p e ha hc hk s m args below hf happ hP hK
  obtain ⟨n, o, h1, h2, h3, ⟨⟨⟨r, M', g', e1, e2, e3⟩, hF⟩, h4⟩⟩ := h p e ha hc hk s m args below hf happ hP hK
  exact ⟨n, o, h1, h2, h3, ⟨⟨⟨r, M', g', e1, ⟨e2.1, hQ _ _ e2.2⟩, e3⟩, hF⟩, h4⟩⟩
end XX
end
section
/-! the memory's own rules -/
theorem xsI_id {M : xMe} {c : Nat} {f : Nat → Int32} (h : ∀ i, f i = M.1 c i) : xsI M c f = M := by
  obtain ⟨A, B⟩ := M
  have e : f = A c := funext h
  subst e
  show (_, _) = _
  congr 1
  funext a
  by_cases ha : a = c
  · subst ha; simp
  · simp [ha]
theorem xsL_id {M : xMe} {c : Nat} {f : Nat → Int64} (h : ∀ i, f i = M.2 c i) : xsL M c f = M := by
  obtain ⟨A, B⟩ := M
  have e : f = B c := funext h
  subst e
  show (_, _) = _
  congr 1
  funext a
  by_cases ha : a = c
  · subst ha; simp
  · simp [ha]
theorem xsI_II {M : xMe} {c : Nat} {f g : Nat → Int32} : xsI (xsI M c f) c g = xsI M c g := by
  unfold xsI
  congr 1
  funext a
  by_cases ha : a = c <;> simp [ha]
theorem xsL_LL {M : xMe} {c : Nat} {f g : Nat → Int64} : xsL (xsL M c f) c g = xsL M c g := by
  unfold xsL
  congr 1
  funext a
  by_cases ha : a = c <;> simp [ha]
theorem xsI_c {M : xMe} {c : Nat} {f g : Nat → Int32} (h : ∀ i, f i = g i) : xsI M c f = xsI M c g := by rw [funext h]
theorem xsL_c {M : xMe} {c : Nat} {f g : Nat → Int64} (h : ∀ i, f i = g i) : xsL M c f = xsL M c g := by rw [funext h]
theorem xsI_1 (M : xMe) (c d : Nat) (f : Nat → Int32) : (xsI M c f).1 d = if d = c then f else M.1 d := rfl
theorem xsI_2 (M : xMe) (c : Nat) (f : Nat → Int32) : (xsI M c f).2 = M.2 := rfl
theorem xsL_1 (M : xMe) (c : Nat) (f : Nat → Int64) : (xsL M c f).1 = M.1 := rfl
theorem xsL_2 (M : xMe) (c d : Nat) (f : Nat → Int64) : (xsL M c f).2 d = if d = c then f else M.2 d := rfl
/-! the smallest methods -/
theorem E_within (l : Launch) (G : xG) (n a b : Int32) (M : xMe) : xE l G y_DS_within [.int n, .int a, .int b] M (fun r M' => M' = M ∧ r = some (.int (if a ≤ n ∧ n ≤ b then 1 else 0))) := by
  refine xE_of [some (.int n), some (.int a), some (.int b)] (by decide +kernel) (Nat.le_of_ble_eq_true rfl) rfl ?_
  refine xF_go o_DS_within [] 60 (fun K hK => ?_)
  repeat' ((conv => whnf); first | refine ⟨fun h => ?_, fun h => ?_⟩ | refine ⟨?_, ?_⟩ | refine hK _ _ _ _ ?_)
  · exact xF_zret o_DS_within rfl rfl (Or.inl rfl) ⟨rfl, by grind⟩
  · exact xF_zret o_DS_within rfl rfl (Or.inl rfl) ⟨rfl, by grind⟩
  · exact xF_zret o_DS_within rfl rfl (Or.inr rfl) ⟨rfl, by grind⟩
theorem E_in (l : Launch) (G : xG) (n a b : Int32) (M : xMe) : xE l G y_Mo_in [.int n, .int a, .int b] M (fun r M' => M' = M ∧ r = some (.int (if a ≤ n ∧ n ≤ b then 1 else 0))) := by
  refine xE_of [some (.int n), some (.int a), some (.int b)] (by decide +kernel) (Nat.le_of_ble_eq_true rfl) rfl ?_
  refine xF_go o_Mo_in [] 60 (fun K hK => ?_)
  repeat' ((conv => whnf); first | refine ⟨fun h => ?_, fun h => ?_⟩ | refine ⟨?_, ?_⟩ | refine hK _ _ _ _ ?_)
  · exact xF_zret o_Mo_in rfl rfl (Or.inl rfl) ⟨rfl, by grind⟩
  · exact xF_zret o_Mo_in rfl rfl (Or.inl rfl) ⟨rfl, by grind⟩
  · exact xF_zret o_Mo_in rfl rfl (Or.inr rfl) ⟨rfl, by grind⟩
theorem E_isItemNumber (l : Launch) (G : xG) (n : Int32) (M : xMe) : xE l G y_DS_isItemNumber [.int n] M (fun r M' => M' = M ∧ r = some (.int (if 0 ≤ n ∧ n < 24 then 1 else 0))) := by
  refine xE_of [some (.int n)] (by decide +kernel) (Nat.le_of_ble_eq_true rfl) rfl ?_
  refine xF_go o_DS_isItemNumber [] 60 (fun K hK => ?_)
  repeat' ((conv => whnf); first | refine ⟨fun h => ?_, fun h => ?_⟩ | refine ⟨?_, ?_⟩ | refine hK _ _ _ _ ?_)
  · exact xF_zret o_DS_isItemNumber rfl rfl (Or.inl rfl) ⟨rfl, by grind⟩
  · exact xF_zret o_DS_isItemNumber rfl rfl (Or.inl rfl) ⟨rfl, by grind⟩
  · exact xF_zret o_DS_isItemNumber rfl rfl (Or.inr rfl) ⟨rfl, by grind⟩
theorem E_isFunction (l : Launch) (G : xG) (n : Int32) (M : xMe) : xE l G y_DS_isFunction [.int n] M (fun r M' => M' = M ∧ r = some (.int (if 0 ≤ n ∧ n < 12 then 1 else 0))) := by
  refine xE_of [some (.int n)] (by decide +kernel) (Nat.le_of_ble_eq_true rfl) rfl ?_
  refine xF_go o_DS_isFunction [] 60 (fun K hK => ?_)
  repeat' ((conv => whnf); first | refine ⟨fun h => ?_, fun h => ?_⟩ | refine ⟨?_, ?_⟩ | refine hK _ _ _ _ ?_)
  · exact xF_zret o_DS_isFunction rfl rfl (Or.inl rfl) ⟨rfl, by grind⟩
  · exact xF_zret o_DS_isFunction rfl rfl (Or.inl rfl) ⟨rfl, by grind⟩
  · exact xF_zret o_DS_isFunction rfl rfl (Or.inr rfl) ⟨rfl, by grind⟩
theorem E_isRegister (l : Launch) (G : xG) (n : Int32) (M : xMe) : xE l G y_DS_isRegister [.int n] M (fun r M' => M' = M ∧ r = some (.int (if 0 ≤ n ∧ n < 4 then 1 else 0))) := by
  refine xE_of [some (.int n)] (by decide +kernel) (Nat.le_of_ble_eq_true rfl) rfl ?_
  refine xF_go o_DS_isRegister [] 60 (fun K hK => ?_)
  repeat' ((conv => whnf); first | refine ⟨fun h => ?_, fun h => ?_⟩ | refine ⟨?_, ?_⟩ | refine hK _ _ _ _ ?_)
  · exact xF_zret o_DS_isRegister rfl rfl (Or.inl rfl) ⟨rfl, by grind⟩
  · exact xF_zret o_DS_isRegister rfl rfl (Or.inl rfl) ⟨rfl, by grind⟩
  · exact xF_zret o_DS_isRegister rfl rfl (Or.inr rfl) ⟨rfl, by grind⟩
theorem E_asNumber (l : Launch) (G : xG) (n : Int32) (M : xMe) : xE l G y_DS_asNumber [.int n] M (fun r M' => M' = M ∧ r = some (.int (if n = 0 then 0 else 1))) := by
  refine xE_of [some (.int n)] (by decide +kernel) (Nat.le_of_ble_eq_true rfl) rfl ?_
  refine xF_go o_DS_asNumber [] 60 (fun K hK => ?_)
  repeat' ((conv => whnf); first | refine ⟨fun h => ?_, fun h => ?_⟩ | refine ⟨?_, ?_⟩ | refine hK _ _ _ _ ?_)
  · exact xF_iret o_DS_asNumber rfl rfl ⟨rfl, by grind⟩
  · exact xF_iret o_DS_asNumber rfl rfl ⟨rfl, by grind⟩
theorem E_gap (l : Launch) (G : xG) (a b : Int32) (M : xMe) : xE l G y_BO_gap [.int a, .int b] M (fun r M' => M' = M ∧ r = some (.int ((-a) &&& (b - 1)))) := by
  refine xE_of [some (.int a), some (.int b)] (by decide +kernel) (Nat.le_of_ble_eq_true rfl) rfl ?_
  refine xF_go o_BO_gap [] 60 (fun K hK => ?_)
  repeat' ((conv => whnf); first | refine ⟨fun h => ?_, fun h => ?_⟩ | refine ⟨?_, ?_⟩ | refine hK _ _ _ _ ?_)
  · exact xF_iret o_BO_gap rfl rfl ⟨rfl, rfl⟩
theorem E_slotOf (l : Launch) (G : xG) (a b : Int32) (M : xMe) : xE l G y_Re_slotOf [.int a, .int b] M (fun r M' => M' = M ∧ r = some (.int (a * 41 + b))) := by
  refine xE_of [some (.int a), some (.int b)] (by decide +kernel) (Nat.le_of_ble_eq_true rfl) rfl ?_
  refine xF_go o_Re_slotOf [] 60 (fun K hK => ?_)
  repeat' ((conv => whnf); first | refine ⟨fun h => ?_, fun h => ?_⟩ | refine ⟨?_, ?_⟩ | refine hK _ _ _ _ ?_)
  · exact xF_iret o_Re_slotOf rfl rfl ⟨rfl, rfl⟩
theorem E_setAt (l : Launch) (G : xG) (a b : Int32) (M : xMe) : xE l G y_Re_setAt [.int a, .int b] M (fun r M' => M' = M ∧ r = some (.int (a * 16 + b * 4))) := by
  refine xE_of [some (.int a), some (.int b)] (by decide +kernel) (Nat.le_of_ble_eq_true rfl) rfl ?_
  refine xF_go o_Re_setAt [] 60 (fun K hK => ?_)
  repeat' ((conv => whnf); first | refine ⟨fun h => ?_, fun h => ?_⟩ | refine ⟨?_, ?_⟩ | refine hK _ _ _ _ ?_)
  · exact xF_iret o_Re_setAt rfl rfl ⟨rfl, rfl⟩
theorem E_standAt (l : Launch) (G : xG) (a b : Int32) (M : xMe) : xE l G y_Re_standAt [.int a, .int b] M (fun r M' => M' = M ∧ r = some (.int ((a * 64 + b) * 4))) := by
  refine xE_of [some (.int a), some (.int b)] (by decide +kernel) (Nat.le_of_ble_eq_true rfl) rfl ?_
  refine xF_go o_Re_standAt [] 60 (fun K hK => ?_)
  repeat' ((conv => whnf); first | refine ⟨fun h => ?_, fun h => ?_⟩ | refine ⟨?_, ?_⟩ | refine hK _ _ _ _ ?_)
  · exact xF_iret o_Re_standAt rfl rfl ⟨rfl, rfl⟩
theorem E_octetOf (l : Launch) (G : xG) (v : Int64) (i : Int32) (M : xMe) : xE l G y_DS_octetOf [.long v, .int i] M (fun r M' => M' = M ∧ r = some (.int ((v.toUInt64 >>> ((8 * (7 - i)).toInt64.toUInt64 &&& Int64.toUInt64 63)).toInt64.toInt32 &&& 255))) := by
  refine xE_of [some (.long v), none, some (.int i)] (by decide +kernel) (Nat.le_of_ble_eq_true rfl) rfl ?_
  refine xF_go o_DS_octetOf [] 60 (fun K hK => ?_)
  repeat' ((conv => whnf); first | refine ⟨fun h => ?_, fun h => ?_⟩ | refine ⟨?_, ?_⟩ | refine hK _ _ _ _ ?_)
  · exact xF_iret o_DS_octetOf rfl rfl ⟨rfl, rfl⟩
theorem E_min (l : Launch) (G : xG) (a b : Int32) (M : xMe) : xE l G y_JM_min [.int a, .int b] M (fun r M' => M' = M ∧ r = some (.int (if a ≤ b then a else b))) := by
  refine xE_of [some (.int a), some (.int b)] (by decide +kernel) (Nat.le_of_ble_eq_true rfl) rfl ?_
  refine xF_go o_JM_min [] 60 (fun K hK => ?_)
  repeat' ((conv => whnf); first | refine ⟨fun h => ?_, fun h => ?_⟩ | refine ⟨?_, ?_⟩ | refine hK _ _ _ _ ?_)
  · exact xF_iret o_JM_min rfl rfl ⟨rfl, by grind⟩
  · exact xF_iret o_JM_min rfl rfl ⟨rfl, by grind⟩
theorem E_max (l : Launch) (G : xG) (a b : Int32) (M : xMe) : xE l G y_JM_max [.int a, .int b] M (fun r M' => M' = M ∧ r = some (.int (if a ≤ b then b else a))) := by
  refine xE_of [some (.int a), some (.int b)] (by decide +kernel) (Nat.le_of_ble_eq_true rfl) rfl ?_
  refine xF_go o_JM_max [] 60 (fun K hK => ?_)
  repeat' ((conv => whnf); first | refine ⟨fun h => ?_, fun h => ?_⟩ | refine ⟨?_, ?_⟩ | refine hK _ _ _ _ ?_)
  · exact xF_iret o_JM_max rfl rfl ⟨rfl, by grind⟩
  · exact xF_iret o_JM_max rfl rfl ⟨rfl, by grind⟩
theorem L_fill1 (l : Launch) (G : xG) (c : Nat) (hc : c = 19 ∨ c = 38 ∨ c = 39 ∨ c = 40 ∨ c = 42 ∨ c = 46) (v : Int32) (Q : Option Value → xMe → Prop) : ∀ (n j : Nat) (M : xMe), n + j = xtl c → Q none (xsI M c (fun i => if j ≤ i ∧ i < xtl c then v else M.1 c i)) → xF l G y_JA_fill1 5 [some (.ref c), some (.int v), some (.int (nI j)), some (.int (nI (xtl c)))] [] M Q := by
  have hlt : xtl c < 2 ^ 31 := by rcases hc with rfl | rfl | rfl | rfl | rfl | rfl <;> decide
  intro n
  induction n with
  | zero =>
    intro j M hj hQ
    refine xF_go o_JA_fill1 [5] 50 (fun K hK => ?_)
    conv => whnf
    refine ⟨fun h => ?_, fun h => absurd h (nI_nlt (by omega) (by omega))⟩
    conv => whnf
    refine hK _ _ _ _ (xF_vret o_JA_fill1 rfl rfl ?_)
    rw [xsI_id (fun i => by rw [if_neg (by omega)])] at hQ
    exact hQ
  | succ n ih =>
    intro j M hj hQ
    refine xF_go o_JA_fill1 [5] 50 (fun K hK => ?_)
    conv => whnf
    refine ⟨fun h => absurd (nI_lt (by omega) (by omega)) h, fun h => ?_⟩
    have key : vp_in (nI j) (xtl c) ∧ K 5 [some (.ref c), some (.int v), some (.int (nI j + 1)), some (.int (nI (xtl c)))] [] (xsI M c (upd (M.1 c) (nI j).toNatClampNeg v)) := by
      refine ⟨vp_in_nI (by omega) hlt, ?_⟩
      rw [nI_1, nI_clamp (by omega)]
      refine hK _ _ _ _ (ih (j + 1) _ (by omega) ?_)
      rw [xsI_II, xsI_s]
      rw [xsI_c (g := fun i => if j ≤ i ∧ i < xtl c then v else M.1 c i)]
      · exact hQ
      · intro i
        unfold upd
        grind
    rcases hc with rfl | rfl | rfl | rfl | rfl | rfl <;> exact key
theorem E_fill1 (l : Launch) (G : xG) (c : Nat) (hc : c = 19 ∨ c = 38 ∨ c = 39 ∨ c = 40 ∨ c = 42 ∨ c = 46) (v : Int32) (M : xMe) : xE l G y_JA_fill1 [.ref c, .int v] M (fun r M' => r = none ∧ M' = xsI M c (fun i => if i < xtl c then v else M.1 c i)) := by
  refine xE_of [some (.ref c), some (.int v), none, none] (by decide +kernel) (Nat.le_of_ble_eq_true rfl) rfl ?_
  refine xF_go o_JA_fill1 [5] 50 (fun K hK => ?_)
  have key : K 5 [some (.ref c), some (.int v), some (.int (nI 0)), some (.int (nI (xtl c)))] [] M := by
    refine hK _ _ _ _ (L_fill1 l G c hc v _ (xtl c) 0 M (by omega) ⟨rfl, ?_⟩)
    exact xsI_c (fun i => by simp)
  rcases hc with rfl | rfl | rfl | rfl | rfl | rfl <;> exact key
theorem L_fill2 (l : Launch) (G : xG) (c : Nat) (hc : c = 18 ∨ c = 23 ∨ c = 24 ∨ c = 25 ∨ c = 26 ∨ c = 27) (v : Int64) (Q : Option Value → xMe → Prop) : ∀ (n j : Nat) (M : xMe), n + j = xtl c → Q none (xsL M c (fun i => if j ≤ i ∧ i < xtl c then v else M.2 c i)) → xF l G y_JA_fill2 6 [some (.ref c), some (.long v), none, some (.int (nI j)), some (.int (nI (xtl c)))] [] M Q := by
  have hlt : xtl c < 2 ^ 31 := by rcases hc with rfl | rfl | rfl | rfl | rfl | rfl <;> decide
  intro n
  induction n with
  | zero =>
    intro j M hj hQ
    refine xF_go o_JA_fill2 [6] 50 (fun K hK => ?_)
    conv => whnf
    refine ⟨fun h => ?_, fun h => absurd h (nI_nlt (by omega) (by omega))⟩
    conv => whnf
    refine hK _ _ _ _ (xF_vret o_JA_fill2 rfl rfl ?_)
    rw [xsL_id (fun i => by rw [if_neg (by omega)])] at hQ
    exact hQ
  | succ n ih =>
    intro j M hj hQ
    refine xF_go o_JA_fill2 [6] 50 (fun K hK => ?_)
    conv => whnf
    refine ⟨fun h => absurd (nI_lt (by omega) (by omega)) h, fun h => ?_⟩
    have key : vp_in (nI j) (xtl c) ∧ K 6 [some (.ref c), some (.long v), none, some (.int (nI j + 1)), some (.int (nI (xtl c)))] [] (xsL M c (vp_updL (M.2 c) (nI j).toNatClampNeg v)) := by
      refine ⟨vp_in_nI (by omega) hlt, ?_⟩
      rw [nI_1, nI_clamp (by omega)]
      refine hK _ _ _ _ (ih (j + 1) _ (by omega) ?_)
      rw [xsL_LL, xsL_s]
      rw [xsL_c (g := fun i => if j ≤ i ∧ i < xtl c then v else M.2 c i)]
      · exact hQ
      · intro i
        unfold vp_updL
        grind
    rcases hc with rfl | rfl | rfl | rfl | rfl | rfl <;> exact key
theorem E_fill2 (l : Launch) (G : xG) (c : Nat) (hc : c = 18 ∨ c = 23 ∨ c = 24 ∨ c = 25 ∨ c = 26 ∨ c = 27) (v : Int64) (M : xMe) : xE l G y_JA_fill2 [.ref c, .long v] M (fun r M' => r = none ∧ M' = xsL M c (fun i => if i < xtl c then v else M.2 c i)) := by
  refine xE_of [some (.ref c), some (.long v), none, none, none] (by decide +kernel) (Nat.le_of_ble_eq_true rfl) rfl ?_
  refine xF_go o_JA_fill2 [6] 50 (fun K hK => ?_)
  have key : K 6 [some (.ref c), some (.long v), none, some (.int (nI 0)), some (.int (nI (xtl c)))] [] M := by
    refine hK _ _ _ _ (L_fill2 l G c hc v _ (xtl c) 0 M (by omega) ⟨rfl, ?_⟩)
    exact xsL_c (fun i => by simp)
  rcases hc with rfl | rfl | rfl | rfl | rfl | rfl <;> exact key
end
section
/-! bits of longs -/
def xbit (w : Int64) (p : Nat) : Bool := w.toBitVec.getLsbD p
theorem xsh1_all : ∀ p, p < 64 → ((1 : Int64) <<< ((nI p).toInt64 &&& 63)).toBitVec = BitVec.twoPow 64 p := by decide +kernel
theorem xshr_all : ∀ p, p < 64 → ((nI p).toInt64.toUInt64 &&& Int64.toUInt64 63).toBitVec.toNat = p := by decide +kernel
theorem xshl_all : ∀ p, p < 64 → ((nI p).toInt64 &&& 63).toBitVec.toNat = p := by decide +kernel
theorem xbit_lt {w : Int64} {p : Nat} (h : xbit w p = true) : p < 64 := by
  unfold xbit at h
  exact BitVec.lt_of_getLsbD h
theorem xbit_or (a b : Int64) (q : Nat) : xbit (a ||| b) q = (xbit a q || xbit b q) := by
  unfold xbit
  rw [Int64.toBitVec_or, BitVec.getLsbD_or]
theorem xbit_and (a b : Int64) (q : Nat) : xbit (a &&& b) q = (xbit a q && xbit b q) := by
  unfold xbit
  rw [Int64.toBitVec_and, BitVec.getLsbD_and]
theorem xbit_xor (a b : Int64) (q : Nat) : xbit (a ^^^ b) q = (xbit a q ^^ xbit b q) := by
  unfold xbit
  rw [Int64.toBitVec_xor, BitVec.getLsbD_xor]
theorem xbit_0 (q : Nat) : xbit 0 q = false := by
  unfold xbit
  simp
theorem xbit_m1 (q : Nat) : xbit (-1) q = decide (q < 64) := by
  unfold xbit
  have : (-1 : Int64).toBitVec = BitVec.allOnes 64 := by decide +kernel
  rw [this, BitVec.getLsbD_allOnes]
theorem xbit_1 {p : Nat} (hp : p < 64) (q : Nat) : xbit ((1 : Int64) <<< ((nI p).toInt64 &&& 63)) q = decide (q = p) := by
  unfold xbit
  rw [xsh1_all p hp, BitVec.getLsbD_twoPow]
  by_cases h : q = p
  · subst h; simp [hp]
  · simp [h]; omega
theorem xbit_not (a : Int64) {q : Nat} (hq : q < 64) : xbit (a ^^^ -1) q = !xbit a q := by
  rw [xbit_xor, xbit_m1]
  simp [hq]
theorem xshr_bv (a : Int64) {p : Nat} (hp : p < 64) : (a.toUInt64 >>> ((nI p).toInt64.toUInt64 &&& Int64.toUInt64 63)).toInt64.toBitVec = a.toBitVec >>> p := by
  have h := xshr_all p hp
  show (a.toUInt64 >>> ((nI p).toInt64.toUInt64 &&& Int64.toUInt64 63)).toBitVec = _
  rw [UInt64.toBitVec_shiftRight]
  show a.toBitVec >>> (((nI p).toInt64.toUInt64 &&& Int64.toUInt64 63).toBitVec % 64#64) = _
  have e : ((nI p).toInt64.toUInt64 &&& Int64.toUInt64 63).toBitVec % 64#64 = BitVec.ofNat 64 p := by
    apply BitVec.eq_of_toNat_eq
    rw [BitVec.toNat_umod, h]
    simp
    omega
  rw [e]
  show a.toBitVec >>> (BitVec.ofNat 64 p).toNat = _
  rw [BitVec.toNat_ofNat, Nat.mod_eq_of_lt (by omega)]
theorem xbit_shr (a : Int64) {p : Nat} (hp : p < 64) (q : Nat) : xbit (a.toUInt64 >>> ((nI p).toInt64.toUInt64 &&& Int64.toUInt64 63)).toInt64 q = xbit a (p + q) := by
  unfold xbit
  rw [xshr_bv a hp, BitVec.getLsbD_ushiftRight]
theorem xshl_bv (a : Int64) {p : Nat} (hp : p < 64) : (a <<< ((nI p).toInt64 &&& 63)).toBitVec = a.toBitVec <<< p := by
  have h := xshl_all p hp
  rw [Int64.toBitVec_shiftLeft]
  have e : (((nI p).toInt64 &&& 63).toBitVec.smod 64#64).toNat = p := by
    have : ∀ p, p < 64 → (((nI p).toInt64 &&& 63).toBitVec.smod 64#64).toNat = p := by decide +kernel
    exact this p hp
  show a.toBitVec <<< (((nI p).toInt64 &&& 63).toBitVec.smod 64#64).toNat = _
  rw [e]
theorem xbit_shl (a : Int64) {p : Nat} (hp : p < 64) (q : Nat) : xbit (a <<< ((nI p).toInt64 &&& 63)) q = (decide (q < 64) && (decide (p ≤ q) && xbit a (q - p))) := by
  unfold xbit
  rw [xshl_bv a hp, BitVec.getLsbD_shiftLeft]
  by_cases h1 : q < 64 <;> by_cases h2 : p ≤ q <;> simp [h1, h2] <;> omega
theorem xbit_ext {a b : Int64} (h : ∀ q, q < 64 → xbit a q = xbit b q) : a = b := by
  apply Int64.toBitVec_inj.mp
  apply BitVec.eq_of_getLsbD_eq
  intro i hi
  exact h i hi
theorem xbit_zero {a : Int64} : a = 0 ↔ ∀ q, q < 64 → xbit a q = false := by
  constructor
  · rintro rfl q _
    exact xbit_0 q
  · intro h
    exact xbit_ext (fun q hq => by rw [h q hq, xbit_0])
theorem xbit_one (q : Nat) : xbit 1 q = decide (q = 0) := by
  have := xbit_1 (p := 0) (by omega) q
  have e : (1 : Int64) <<< ((nI 0).toInt64 &&& 63) = 1 := by decide +kernel
  rw [e] at this
  exact this
/-- (x >>> p & 1) != 0 -/
theorem xbit_test (a : Int64) {p : Nat} (hp : p < 64) : ((a.toUInt64 >>> ((nI p).toInt64.toUInt64 &&& Int64.toUInt64 63)).toInt64 &&& 1 = 0) ↔ xbit a p = false := by
  rw [xbit_zero]
  constructor
  · intro h
    have := h 0 (by omega)
    rw [xbit_and, xbit_shr a hp, xbit_one] at this
    simpa using this
  · intro h q hq
    rw [xbit_and, xbit_shr a hp, xbit_one]
    by_cases h0 : q = 0
    · subst h0; simp [h]
    · simp [h0]
theorem xcmp0 (a b : Int64) : lg_cmp a b = 0 ↔ a = b := by
  unfold lg_cmp
  by_cases h : a = b
  · subst h
    have : ¬ a > a := Int64.lt_irrefl
    simp [this]
  · simp [h]
    by_cases h2 : a > b
    · have h3 : b < a := h2
      simp [h3]
    · have h3 : ¬ b < a := h2
      simp [h3]
end
section
/-! The program as told, as a mathematical value; what each side's memory is to it -/
abbrev sP : Type := (Nat → Nat) × (Nat → Nat) × (Nat → Nat) × (Nat → Bool) × (Nat → Nat → Nat) × (Nat → Nat → Option Nat) × (Nat → List (Nat × Int32 × Int32 × Int32)) × (Nat → Bool) × List Nat
abbrev pS (P : sP) : Nat → Nat := P.1
abbrev pA (P : sP) : Nat → Nat := P.2.1
abbrev pG (P : sP) : Nat → Nat := P.2.2.1
abbrev pV (P : sP) : Nat → Bool := P.2.2.2.1
abbrev pO (P : sP) : Nat → Nat → Nat := P.2.2.2.2.1
abbrev pR (P : sP) : Nat → Nat → Option Nat := P.2.2.2.2.2.1
abbrev pC (P : sP) : Nat → List (Nat × Int32 × Int32 × Int32) := P.2.2.2.2.2.2.1
abbrev pE (P : sP) : Nat → Bool := P.2.2.2.2.2.2.2.1
abbrev pI (P : sP) : List Nat := P.2.2.2.2.2.2.2.2
def b2 (b : Bool) : Int32 := if b then 1 else 0
theorem b2_01 (b : Bool) : b2 b = 0 ∨ b2 b = 1 := by cases b <;> decide
theorem b2_0 {b : Bool} : b2 b = 0 ↔ b = false := by cases b <;> decide
/-- an instruction that may be told -/
def vR (a : Int32) : Prop := 0 ≤ a ∧ a < 4
def vT (a : Int32) : Prop := 0 ≤ a ∧ a < 24
def vN (q : Nat × Int32 × Int32 × Int32) : Prop := match q.1 with
  | 0 => vR q.2.1 ∧ (0 ≤ q.2.2.1 ∧ q.2.2.1 ≤ 255) ∧ q.2.2.2 = 0
  | 1 => vR q.2.1 ∧ (-255 ≤ q.2.2.1 ∧ q.2.2.1 ≤ 255) ∧ q.2.2.2 = 0
  | 2 => vR q.2.1 ∧ (0 ≤ q.2.2.1 ∧ q.2.2.1 ≤ 255) ∧ q.2.2.2 = 0
  | 3 => vR q.2.1 ∧ vT q.2.2.1 ∧ vR q.2.2.2
  | 4 => vT q.2.1 ∧ vR q.2.2.1 ∧ vR q.2.2.2
  | 5 => (0 ≤ q.2.1 ∧ q.2.1 < 12) ∧ q.2.2.1 = 0 ∧ q.2.2.2 = 0
  | 6 => vR q.2.1 ∧ (-40 ≤ q.2.2.1 ∧ q.2.2.1 ≤ 40) ∧ q.2.2.2 = 0
  | 7 => vR q.2.1 ∧ q.2.2.1 = 0 ∧ q.2.2.2 = 0
  | 8 => q.2.1 = 0 ∧ q.2.2.1 = 0 ∧ q.2.2.2 = 0
  | 9 => vR q.2.1 ∧ q.2.2.1 = 0 ∧ q.2.2.2 = 0
  | 10 => vR q.2.1 ∧ vT q.2.2.1 ∧ vT q.2.2.2
  | 11 => vR q.2.1 ∧ vT q.2.2.1 ∧ vR q.2.2.2
  | _ => False
/-- well formed -/
def wP (P : sP) : Prop := (∀ k, k < 24 → pS P k ≤ 64 ∧ pG P k ≤ 3 ∧ (0 < pS P k → pA P k = 1 ∨ pA P k = 2 ∨ pA P k = 4 ∨ pA P k = 8)) ∧ (∀ k, k < 24 → ∀ p, p < 64 → pO P k p < 256) ∧ (∀ k, k < 24 → ∀ p, p < 64 → ∀ t, pR P k p = some t → t < 24 ∧ p < pS P k ∧ 0 < pS P t) ∧ (∀ f, f < 12 → (pC P f).length ≤ 40 ∧ ∀ q ∈ pC P f, vN q) ∧ (pI P).length ≤ 200 ∧ ∀ v ∈ pI P, v < 256
/-- the class's memory: cells 1 to 15 -/
def cS (P : sP) (M : xMe) : Prop := ∀ k, k < 24 → M.1 2 k = nI (pS P k) ∧ M.1 3 k = nI (pA P k) ∧ M.1 4 k = nI (pG P k) ∧ M.1 5 k = b2 (pV P k)
def cO (P : sP) (M : xMe) : Prop := ∀ k, k < 24 → ∀ p, p < 64 → M.1 6 (k * 64 + p) = nI (pO P k p)
def cR (P : sP) (M : xMe) : Prop := ∀ k, k < 24 → ∀ p, p < 64 → xbit (M.2 8 k) p = (pR P k p).isSome ∧ ∀ t, pR P k p = some t → M.1 7 (k * 64 + p) = nI t
def cC (P : sP) (M : xMe) : Prop := ∀ f, f < 12 → M.1 9 f = nI (pC P f).length ∧ ∀ i q, (pC P f)[i]? = some q → M.1 10 (f * 40 + i) = nI q.1 ∧ M.1 11 (f * 40 + i) = q.2.1 ∧ M.1 12 (f * 40 + i) = q.2.2.1 ∧ M.1 13 (f * 40 + i) = q.2.2.2
def cE (P : sP) (M : xMe) : Prop := ∀ f, f < 12 → M.1 14 f = b2 (pE P f)
def cI (P : sP) (M : xMe) : Prop := M.1 1 14 = nI (pI P).length ∧ ∀ i v, (pI P)[i]? = some v → M.1 15 i = nI v
def cP (P : sP) (M : xMe) : Prop := cS P M ∧ cO P M ∧ cR P M ∧ cC P M ∧ cE P M ∧ cI P M
/-- only the cells S differ -/
def xfr (S : List Nat) (M M' : xMe) : Prop := ∀ c, c ∉ S → M'.1 c = M.1 c ∧ M'.2 c = M.2 c
theorem xfr.rf {S : List Nat} {M : xMe} : xfr S M M := fun _ _ => ⟨rfl, rfl⟩
theorem xfr.tr {S S' : List Nat} {M M' M'' : xMe} (h : xfr S M M') (h' : xfr S' M' M'') (hs : ∀ c, c ∈ S' → c ∈ S) : xfr S M M'' := fun c hc => ⟨(h' c (fun z => hc (hs c z))).1.trans (h c hc).1, (h' c (fun z => hc (hs c z))).2.trans (h c hc).2⟩
theorem xfr.mono {S S' : List Nat} {M M' : xMe} (h : xfr S M M') (hs : ∀ c, c ∈ S → c ∈ S') : xfr S' M M' := fun c hc => h c (fun z => hc (hs c z))
theorem xfr.I {S : List Nat} {M M' : xMe} {c : Nat} {f : Nat → Int32} (h : xfr S M M') (hc : c ∈ S) : xfr S M (xsI M' c f) := fun d hd => by
  have hne : d ≠ c := fun e => hd (e ▸ hc)
  rw [xsI_1, if_neg hne, xsI_2]
  exact h d hd
theorem xfr.L {S : List Nat} {M M' : xMe} {c : Nat} {f : Nat → Int64} (h : xfr S M M') (hc : c ∈ S) : xfr S M (xsL M' c f) := fun d hd => by
  have hne : d ≠ c := fun e => hd (e ▸ hc)
  rw [xsL_2, if_neg hne, xsL_1]
  exact h d hd
/-- ints that are naturals -/
theorem nI_of24 {x : Int32} (h : 0 ≤ x ∧ x < 24) : ∃ k, k < 24 ∧ x = nI k := by
  rcases pk_ix x (n := 24) (by decide) with q | q | q
  · exact absurd q (Int32.not_lt.mpr h.1)
  · exact absurd q (Int32.not_le.mpr h.2)
  · exact q
theorem nI_ofN {x : Int32} {n : Nat} (hn : n < 2 ^ 31) (h : 0 ≤ x) (h2 : x < nI n) : ∃ k, k < n ∧ x = nI k := by
  rcases pk_ix x (n := n) hn with q | q | q
  · exact absurd q (Int32.not_lt.mpr h)
  · exact absurd q (Int32.not_le.mpr h2)
  · exact q
theorem nI_16 (n : Nat) : nI n * 64 = nI (n * 64) := pk_mul n 64
theorem nI_40 (n : Nat) : nI n * 40 = nI (n * 40) := pk_mul n 40
theorem nI_41 (n : Nat) : nI n * 41 = nI (n * 41) := pk_mul n 41
end
section
/-! Program: small questions -/
theorem if10 {p : Prop} [Decidable p] : ((if p then (1 : Int32) else 0) = 0) ↔ ¬ p := by
  by_cases h : p <;> simp [h]
theorem nI_in24 {x : Int32} (h : 0 ≤ x ∧ x < 24) : vp_in x 24 := by
  obtain ⟨k, hk, rfl⟩ := nI_of24 h
  exact vp_in_nI hk (by decide)
theorem nI_24 {j : Nat} (h : j < 24) : 0 ≤ nI j ∧ nI j < 24 := ⟨nI_pos' (by omega), nI_lt (b := 24) h (by decide)⟩
theorem nI_inj {a b : Nat} (ha : a < 2 ^ 31) (hb : b < 2 ^ 31) (h : nI a = nI b) : a = b := (nI_eq ha hb).mp h
section XPR
variable (l : Launch) (G : xG)
theorem E_hasItem (P : sP) (M : xMe) (hM : cS P M) (hw : wP P) (k : Int32) : xE l G y_Pr_hasItem [.ref 1, .int k] M (fun r M' => M' = M ∧ ∃ b, r = some (.int (b2 b)) ∧ (b = true ↔ ∃ j, j < 24 ∧ k = nI j ∧ 0 < pS P j)) := by
  refine xE_of [some (.ref 1), some (.int k)] (by decide +kernel) (Nat.le_of_ble_eq_true rfl) rfl ?_
  refine xF_go o_Pr_hasItem [] 50 (fun K hK => ?_)
  repeat' ((conv => whnf); first | refine ⟨fun h => ?_, fun h => ?_⟩ | refine ⟨?_, ?_⟩ | refine hK _ _ _ _ ?_)
  refine xF_callS o_Pr_hasItem [.int k] rfl z_DS_isItemNumber s_DS_isItemNumber l_Pr_56 rfl ⟨⟨by decide, by decide⟩, rfl, rfl⟩ (Nat.le_of_ble_eq_true rfl) rfl (E_isItemNumber l G k M) ?_
  rintro v M' ⟨rfl, rfl⟩
  refine xF_go o_Pr_hasItem [] 50 (fun K hK => ?_)
  repeat' ((conv => whnf); first | refine ⟨fun h => ?_, fun h => ?_⟩ | refine ⟨?_, ?_⟩ | refine hK _ _ _ _ ?_)
  · refine xF_zret o_Pr_hasItem rfl rfl (Or.inl rfl) ?_
    refine ⟨rfl, false, rfl, ?_⟩
    rw [if10] at h
    simp
    intro j hj e
    exact absurd (e ▸ nI_24 hj) h
  · rw [if10, Classical.not_not] at h
    exact nI_in24 h
  · rename_i h1
    rw [if10, Classical.not_not] at h1
    obtain ⟨j, hj, rfl⟩ := nI_of24 h1
    rw [nI_clamp (by omega), (hM j hj).1] at h
    have hs := (hw.1 j hj).1
    refine xF_zret o_Pr_hasItem rfl rfl (Or.inl rfl) ?_
    refine ⟨rfl, false, rfl, ?_⟩
    simp
    intro i hi e
    have := nI_inj (by omega) (by omega) e
    subst this
    have h2 : ¬ nI 0 < nI (pS P j) := h
    rw [nI_ltI (by omega) (by omega)] at h2
    omega
  · rename_i h1
    rw [if10, Classical.not_not] at h1
    obtain ⟨j, hj, rfl⟩ := nI_of24 h1
    rw [nI_clamp (by omega), (hM j hj).1] at h
    have hs := (hw.1 j hj).1
    refine xF_zret o_Pr_hasItem rfl rfl (Or.inr rfl) ?_
    refine ⟨rfl, true, rfl, ?_⟩
    simp
    have h2 : nI 0 < nI (pS P j) := h
    rw [nI_ltI (by omega) (by omega)] at h2
    exact ⟨j, hj, rfl, h2⟩
theorem E_hasPlace (P : sP) (M : xMe) (hM : cS P M) (hw : wP P) (k p : Int32) : xE l G y_Pr_hasPlace [.ref 1, .int k, .int p] M (fun r M' => M' = M ∧ ∃ b, r = some (.int (b2 b)) ∧ (b = true ↔ ∃ j q, j < 24 ∧ k = nI j ∧ q < pS P j ∧ p = nI q)) := by
  refine xE_of [some (.ref 1), some (.int k), some (.int p)] (by decide +kernel) (Nat.le_of_ble_eq_true rfl) rfl ?_
  refine xF_go o_Pr_hasPlace [] 50 (fun K hK => ?_)
  repeat' ((conv => whnf); first | refine ⟨fun h => ?_, fun h => ?_⟩ | refine ⟨?_, ?_⟩ | refine hK _ _ _ _ ?_)
  refine xF_callS o_Pr_hasPlace [.int k] rfl z_DS_isItemNumber s_DS_isItemNumber l_Pr_56 rfl ⟨⟨by decide, by decide⟩, rfl, rfl⟩ (Nat.le_of_ble_eq_true rfl) rfl (E_isItemNumber l G k M) ?_
  rintro v M' ⟨rfl, rfl⟩
  refine xF_go o_Pr_hasPlace [] 50 (fun K hK => ?_)
  repeat' ((conv => whnf); first | refine ⟨fun h => ?_, fun h => ?_⟩ | refine ⟨?_, ?_⟩ | refine hK _ _ _ _ ?_)
  · refine xF_zret o_Pr_hasPlace rfl rfl (Or.inl rfl) ?_
    refine ⟨rfl, false, rfl, ?_⟩
    rw [if10] at h
    simp
    intro j hj e
    exact absurd (e ▸ nI_24 hj) h
  · rw [if10, Classical.not_not] at h
    exact nI_in24 h
  · rw [if10, Classical.not_not] at h
    obtain ⟨j, hj, rfl⟩ := nI_of24 h
    refine xF_callS o_Pr_hasPlace [.int p, .int 0, .int _] rfl z_DS_within s_DS_within l_Pr_60 rfl ⟨⟨by decide, by decide⟩, rfl, rfl⟩ (Nat.le_of_ble_eq_true rfl) rfl (E_within l G p 0 _ M') ?_
    rintro v M ⟨rfl, rfl⟩
    refine xF_go o_Pr_hasPlace [] 50 (fun K hK => ?_)
    have hs := (hw.1 j hj).1
    rw [nI_clamp (by omega), (hM j hj).1]
    repeat' ((conv => whnf); first | refine ⟨fun h => ?_, fun h => ?_⟩ | refine ⟨?_, ?_⟩ | refine hK _ _ _ _ ?_)
    · rename_i h
      rw [if10] at h
      refine xF_zret o_Pr_hasPlace rfl rfl (Or.inl rfl) ?_
      refine ⟨rfl, false, rfl, ?_⟩
      simp
      intro i hi e q hq e2
      have := nI_inj (by omega) (by omega) e
      subst this
      subst e2
      refine h ⟨nI_pos' (by omega), ?_⟩
      rw [show (nI (pS P j) - 1 : Int32) = nI (pS P j - 1) from pk_sub (b := 1) (by omega)]
      exact nI_le (by omega) (by omega)
    · rename_i h
      rw [if10, Classical.not_not] at h
      refine xF_zret o_Pr_hasPlace rfl rfl (Or.inr rfl) ?_
      refine ⟨rfl, true, rfl, ?_⟩
      simp
      rcases Nat.eq_zero_or_pos (pS P j) with h0 | h0
      · rw [h0] at h
        have : (nI 0 - 1 : Int32) = -1 := by decide
        rw [this] at h
        grind
      · rw [show (nI (pS P j) - 1 : Int32) = nI (pS P j - 1) from pk_sub (b := 1) (by omega)] at h
        obtain ⟨q, hq, e⟩ := nI_ofN (x := p) (n := pS P j) (by omega) h.1 (by
          have h3 : nI (pS P j - 1) < nI (pS P j) := nI_lt (by omega) (by omega)
          grind)
        exact ⟨j, hj, rfl, q, hq, e⟩
theorem E_hasEntry (P : sP) (M : xMe) (hM : cE P M) (k : Int32) : xE l G y_Pr_hasEntry [.ref 1, .int k] M (fun r M' => M' = M ∧ ∃ b, r = some (.int (b2 b)) ∧ (b = true ↔ ∃ j, j < 12 ∧ k = nI j ∧ pE P j = true)) := by
  refine xE_of [some (.ref 1), some (.int k)] (by decide +kernel) (Nat.le_of_ble_eq_true rfl) rfl ?_
  refine xF_go o_Pr_hasEntry [] 50 (fun K hK => ?_)
  repeat' ((conv => whnf); first | refine ⟨fun h => ?_, fun h => ?_⟩ | refine ⟨?_, ?_⟩ | refine hK _ _ _ _ ?_)
  refine xF_callS o_Pr_hasEntry [.int k] rfl z_DS_isFunction s_DS_isFunction l_Pr_67 rfl ⟨⟨by decide, by decide⟩, rfl, rfl⟩ (Nat.le_of_ble_eq_true rfl) rfl (E_isFunction l G k M) ?_
  rintro v M' ⟨rfl, rfl⟩
  refine xF_go o_Pr_hasEntry [] 50 (fun K hK => ?_)
  repeat' ((conv => whnf); first | refine ⟨fun h => ?_, fun h => ?_⟩ | refine ⟨?_, ?_⟩ | refine hK _ _ _ _ ?_)
  · refine xF_zret o_Pr_hasEntry rfl rfl (Or.inl rfl) ?_
    refine ⟨rfl, false, rfl, ?_⟩
    rw [if10] at h
    simp
    intro j hj e
    exact absurd (e ▸ ⟨nI_pos' (by omega), nI_lt (b := 12) hj (by decide)⟩) h
  · rw [if10, Classical.not_not] at h
    obtain ⟨j, hj, rfl⟩ := nI_ofN (n := 12) (by decide) h.1 h.2
    exact vp_in_nI hj (by decide)
  · rename_i h1
    rw [if10, Classical.not_not] at h1
    obtain ⟨j, hj, rfl⟩ := nI_ofN (n := 12) (by decide) h1.1 h1.2
    rw [nI_clamp (by omega), hM j hj, b2_0] at h
    refine xF_zret o_Pr_hasEntry rfl rfl (Or.inl rfl) ?_
    refine ⟨rfl, false, rfl, ?_⟩
    simp
    intro i hi e
    have := nI_inj (by omega) (by omega) e
    subst this
    exact h
  · rename_i h1
    rw [if10, Classical.not_not] at h1
    obtain ⟨j, hj, rfl⟩ := nI_ofN (n := 12) (by decide) h1.1 h1.2
    rw [nI_clamp (by omega), hM j hj, b2_0] at h
    refine xF_zret o_Pr_hasEntry rfl rfl (Or.inr rfl) ?_
    refine ⟨rfl, true, rfl, ?_⟩
    simp
    exact ⟨j, hj, rfl, by simpa using h⟩
end XPR
end
section
/-! Program: what may be told -/
theorem xF_post {l : Launch} {G : xG} {Y : xMD} {pc : Nat} {lv : xLv} {st : List Value} {M : xMe} {Q Q' : Option Value → xMe → Prop} (hQ : ∀ v M, Q' v M → Q v M) (h : xF l G Y pc lv st M Q') : xF l G Y pc lv st M Q := xc_post (fun _ _ _ z => ⟨z.1, hQ _ _ z.2⟩) h
def vItem (k n a g : Int32) : Prop := (0 ≤ k ∧ k < 24) ∧ (0 ≤ n ∧ n ≤ 64) ∧ (a = 1 ∨ a = 2 ∨ a = 4 ∨ a = 8) ∧ (0 ≤ g ∧ g ≤ 3)
section XPS
variable (l : Launch) (G : xG)
theorem L_isItem (k n a g z : Int32) (M : xMe) : xF l G y_Pr_isItem 28 [some (.int k), some (.int n), some (.int a), some (.int g), some (.int z)] [] M (fun r M' => M' = M ∧ ∃ b, r = some (.int (b2 b)) ∧ (b = true ↔ (0 ≤ k ∧ k < 24) ∧ (0 ≤ n ∧ n ≤ 64) ∧ ¬ z = 0 ∧ (0 ≤ g ∧ g ≤ 3))) := by
  refine xF_go o_Pr_isItem [] 50 (fun K hK => ?_)
  repeat' ((conv => whnf); first | refine ⟨fun h => ?_, fun h => ?_⟩ | refine ⟨?_, ?_⟩ | refine hK _ _ _ _ ?_)
  refine xF_callS o_Pr_isItem [.int k] rfl z_DS_isItemNumber s_DS_isItemNumber l_Pr_56 rfl ⟨⟨by decide, by decide⟩, rfl, rfl⟩ (Nat.le_of_ble_eq_true rfl) rfl (E_isItemNumber l G k M) ?_
  rintro v M1 ⟨rfl, rfl⟩
  clear hK K
  refine xF_go o_Pr_isItem [] 50 (fun K hK => ?_)
  repeat' ((conv => whnf); first | refine ⟨fun h => ?_, fun h => ?_⟩ | refine ⟨?_, ?_⟩ | refine hK _ _ _ _ ?_)
  · refine xF_zret o_Pr_isItem rfl rfl (Or.inl rfl) ?_
    exact ⟨rfl, false, rfl, by grind⟩
  refine xF_callS o_Pr_isItem [.int n, .int 0, .int 64] rfl z_DS_within s_DS_within l_Pr_60 rfl ⟨⟨by decide, by decide⟩, rfl, rfl⟩ (Nat.le_of_ble_eq_true rfl) rfl (E_within l G n 0 64 M1) ?_
  rintro v M ⟨rfl, rfl⟩
  clear hK K
  refine xF_go o_Pr_isItem [] 50 (fun K hK => ?_)
  repeat' ((conv => whnf); first | refine ⟨fun h => ?_, fun h => ?_⟩ | refine ⟨?_, ?_⟩ | refine hK _ _ _ _ ?_)
  · refine xF_zret o_Pr_isItem rfl rfl (Or.inl rfl) ?_
    exact ⟨rfl, false, rfl, by grind⟩
  · refine xF_zret o_Pr_isItem rfl rfl (Or.inl rfl) ?_
    exact ⟨rfl, false, rfl, by grind⟩
  refine xF_callS o_Pr_isItem [.int g, .int 0, .int 3] rfl z_DS_within s_DS_within l_Pr_60 rfl ⟨⟨by decide, by decide⟩, rfl, rfl⟩ (Nat.le_of_ble_eq_true rfl) rfl (E_within l G g 0 3 M) ?_
  rintro v M1 ⟨rfl, rfl⟩
  clear hK K
  refine xF_go o_Pr_isItem [] 50 (fun K hK => ?_)
  repeat' ((conv => whnf); first | refine ⟨fun h => ?_, fun h => ?_⟩ | refine ⟨?_, ?_⟩ | refine hK _ _ _ _ ?_)
  · refine xF_zret o_Pr_isItem rfl rfl (Or.inl rfl) ?_
    exact ⟨rfl, false, rfl, by grind⟩
  · refine xF_zret o_Pr_isItem rfl rfl (Or.inr rfl) ?_
    exact ⟨rfl, true, rfl, by grind⟩
theorem E_isItem (k n a g : Int32) (M : xMe) : xE l G y_Pr_isItem [.int k, .int n, .int a, .int g] M (fun r M' => M' = M ∧ ∃ b, r = some (.int (b2 b)) ∧ (b = true ↔ vItem k n a g)) := by
  refine xE_of [some (.int k), some (.int n), some (.int a), some (.int g), none] (by decide +kernel) (Nat.le_of_ble_eq_true rfl) rfl ?_
  refine xF_go o_Pr_isItem [28] 50 (fun K hK => ?_)
  repeat' ((conv => whnf); first | refine ⟨fun h => ?_, fun h => ?_⟩ | refine ⟨?_, ?_⟩ | refine hK _ _ _ _ ?_)
  all_goals refine xF_post ?_ (L_isItem l G k n a g _ M)
  all_goals rintro v M' ⟨rfl, b, rfl, hb⟩
  all_goals refine ⟨rfl, b, rfl, hb.trans ?_⟩
  all_goals unfold vItem
  all_goals grind
theorem E_hasReference (P : sP) (M : xMe) (hM : cR P M) (k p : Nat) (hk : k < 24) (hp : p < 64) : xE l G y_Pr_hasReference [.ref 1, .int (nI k), .int (nI p)] M (fun r M' => M' = M ∧ r = some (.int (b2 (pR P k p).isSome))) := by
  refine xE_of [some (.ref 1), some (.int (nI k)), some (.int (nI p))] (by decide +kernel) (Nat.le_of_ble_eq_true rfl) rfl ?_
  refine xF_go o_Pr_hasReference [] 50 (fun K hK => ?_)
  repeat' ((conv => whnf); first | refine ⟨fun h => ?_, fun h => ?_⟩ | refine ⟨?_, ?_⟩ | refine hK _ _ _ _ ?_)
  · exact vp_in_nI hk (by decide)
  · rw [nI_clamp (by omega), xcmp0, xbit_test _ hp, (hM k hk p hp).1] at h
    refine xF_zret o_Pr_hasReference rfl rfl (Or.inl rfl) ?_
    exact ⟨rfl, by rw [h]; rfl⟩
  · rw [nI_clamp (by omega), xcmp0, xbit_test _ hp, (hM k hk p hp).1] at h
    refine xF_zret o_Pr_hasReference rfl rfl (Or.inr rfl) ?_
    have h2 : (pR P k p).isSome = true := by
      cases hh : (pR P k p).isSome with
      | true => rfl
      | false => exact absurd hh h
    exact ⟨rfl, by rw [h2]; rfl⟩
/-- the bits of the places of an item -/
theorem E_placesOf (P : sP) (M : xMe) (hM : cS P M) (hw : wP P) (k : Nat) (hk : k < 24) : xE l G y_Pr_placesOf [.ref 1, .int (nI k)] M (fun r M' => M' = M ∧ ∃ w, r = some (.long w) ∧ ∀ q, q < 64 → xbit w q = decide (q < pS P k)) := by
  have hs := (hw.1 k hk).1
  refine xE_of [some (.ref 1), some (.int (nI k))] (by decide +kernel) (Nat.le_of_ble_eq_true rfl) rfl ?_
  refine xF_go o_Pr_placesOf [] 50 (fun K hK => ?_)
  repeat' ((conv => whnf); first | refine ⟨fun h => ?_, fun h => ?_⟩ | refine ⟨?_, ?_⟩ | refine hK _ _ _ _ ?_)
  · exact vp_in_nI hk (by decide)
  · exact vp_in_nI hk (by decide)
  · rw [nI_clamp (by omega), (hM k hk).1] at h
    have h0 : 0 < pS P k := by
      rcases Nat.eq_zero_or_pos (pS P k) with q | q
      · rw [q] at h; exact absurd rfl h
      · exact q
    refine xF_lret o_Pr_placesOf rfl rfl ?_
    refine ⟨rfl, _, rfl, fun q hq => ?_⟩
    rw [nI_clamp (by omega), (hM k hk).1, show (64 - nI (pS P k) : Int32) = nI (64 - pS P k) from pk_sub (a := 64) hs, xbit_shr _ (by omega), xbit_m1]
    congr 1
    apply propext
    omega
  · rw [nI_clamp (by omega), (hM k hk).1] at h
    have h0 : pS P k = 0 := nI_inj (b := 0) (by omega) (by omega) h
    refine xF_lret o_Pr_placesOf rfl rfl ?_
    exact ⟨rfl, 0, rfl, fun q _ => by rw [xbit_0, h0]; simp⟩
end XPS
end
section
/-! which instructions may be told: both sides -/
def vIns (o a b c : Int32) : Prop := (o = 0 ∧ vR a ∧ (0 ≤ b ∧ b ≤ 255) ∧ c = 0) ∨ (o = 1 ∧ vR a ∧ (-255 ≤ b ∧ b ≤ 255) ∧ c = 0) ∨ (o = 2 ∧ vR a ∧ (0 ≤ b ∧ b ≤ 255) ∧ c = 0) ∨ (o = 3 ∧ vR a ∧ vT b ∧ vR c) ∨ (o = 4 ∧ vT a ∧ vR b ∧ vR c) ∨ (o = 5 ∧ (0 ≤ a ∧ a < 12) ∧ b = 0 ∧ c = 0) ∨ (o = 6 ∧ vR a ∧ (-40 ≤ b ∧ b ≤ 40) ∧ c = 0) ∨ (o = 7 ∧ vR a ∧ b = 0 ∧ c = 0) ∨ (o = 8 ∧ a = 0 ∧ b = 0 ∧ c = 0) ∨ (o = 9 ∧ vR a ∧ b = 0 ∧ c = 0) ∨ (o = 10 ∧ vR a ∧ vT b ∧ vT c) ∨ (o = 11 ∧ vR a ∧ vT b ∧ vR c)
section XIN
variable (l : Launch) (G : xG)
theorem E_MisRegister (n : Int32) (M : xMe) : xE l G y_Mo_isRegister [.int n] M (fun r M' => M' = M ∧ r = some (.int (if 0 ≤ n ∧ n < 4 then 1 else 0))) := by
  refine xE_of [some (.int n)] (by decide +kernel) (Nat.le_of_ble_eq_true rfl) rfl ?_
  refine xF_go o_Mo_isRegister [] 50 (fun K hK => ?_)
  repeat' ((conv => whnf); first | refine ⟨fun h => ?_, fun h => ?_⟩ | refine ⟨?_, ?_⟩ | refine hK _ _ _ _ ?_)
  refine xF_callS o_Mo_isRegister [.int n, .int 0, .int 3] rfl z_Mo_in s_Mo_in l_Mo_157 rfl ⟨⟨by decide, by decide⟩, rfl, rfl⟩ (Nat.le_of_ble_eq_true rfl) rfl (E_in l G n 0 3 M) ?_
  rintro v M1 ⟨rfl, rfl⟩
  clear hK K
  refine xF_go o_Mo_isRegister [] 50 (fun K hK => ?_)
  repeat' ((conv => whnf); first | refine ⟨fun h => ?_, fun h => ?_⟩ | refine ⟨?_, ?_⟩ | refine hK _ _ _ _ ?_)
  refine xF_zret o_Mo_isRegister rfl rfl (by grind) ⟨rfl, ?_⟩
  congr 2
  grind
theorem E_MisItem (n : Int32) (M : xMe) : xE l G y_Mo_isItem [.int n] M (fun r M' => M' = M ∧ r = some (.int (if 0 ≤ n ∧ n < 24 then 1 else 0))) := by
  refine xE_of [some (.int n)] (by decide +kernel) (Nat.le_of_ble_eq_true rfl) rfl ?_
  refine xF_go o_Mo_isItem [] 50 (fun K hK => ?_)
  repeat' ((conv => whnf); first | refine ⟨fun h => ?_, fun h => ?_⟩ | refine ⟨?_, ?_⟩ | refine hK _ _ _ _ ?_)
  refine xF_callS o_Mo_isItem [.int n, .int 0, .int 23] rfl z_Mo_in s_Mo_in l_Mo_157 rfl ⟨⟨by decide, by decide⟩, rfl, rfl⟩ (Nat.le_of_ble_eq_true rfl) rfl (E_in l G n 0 23 M) ?_
  rintro v M1 ⟨rfl, rfl⟩
  clear hK K
  refine xF_go o_Mo_isItem [] 50 (fun K hK => ?_)
  repeat' ((conv => whnf); first | refine ⟨fun h => ?_, fun h => ?_⟩ | refine ⟨?_, ?_⟩ | refine hK _ _ _ _ ?_)
  refine xF_zret o_Mo_isItem rfl rfl (by grind) ⟨rfl, ?_⟩
  congr 2
  grind
theorem L_insC_64 (o a b c : Int32) (M : xMe) : xF l G y_Pr_isInstruction 64 [some (.int o), some (.int a), some (.int b), some (.int c)] [] M (fun r M' => M' = M ∧ ∃ z, r = some (.int (b2 z)) ∧ (z = true ↔ vR a ∧ (0 ≤ b ∧ b ≤ 255) ∧ c = 0)) := by
  unfold vR
  refine xF_go o_Pr_isInstruction [] 60 (fun K hK => ?_)
  repeat' ((conv => whnf); first | refine ⟨fun h => ?_, fun h => ?_⟩ | refine ⟨?_, ?_⟩ | refine hK _ _ _ _ ?_)
  refine xF_callS o_Pr_isInstruction [.int a] rfl z_DS_isRegister s_DS_isRegister l_Pr_64 rfl ⟨⟨by decide, by decide⟩, rfl, rfl⟩ (Nat.le_of_ble_eq_true rfl) rfl (E_isRegister l G a M) ?_
  rintro v M1 ⟨rfl, rfl⟩
  clear hK K
  rename xMe => M
  refine xF_go o_Pr_isInstruction [] 60 (fun K hK => ?_)
  repeat' ((conv => whnf); first | refine ⟨fun h => ?_, fun h => ?_⟩ | refine ⟨?_, ?_⟩ | refine hK _ _ _ _ ?_)
  · first | exact xF_zret o_Pr_isInstruction rfl rfl (Or.inl rfl) ⟨rfl, false, rfl, by grind⟩ | exact xF_zret o_Pr_isInstruction rfl rfl (Or.inr rfl) ⟨rfl, true, rfl, by grind⟩
  refine xF_callS o_Pr_isInstruction [.int b, .int 0, .int 255] rfl z_DS_within s_DS_within l_Pr_60 rfl ⟨⟨by decide, by decide⟩, rfl, rfl⟩ (Nat.le_of_ble_eq_true rfl) rfl (E_within l G b 0 255 M) ?_
  rintro v M1 ⟨rfl, rfl⟩
  clear hK K
  rename xMe => M
  refine xF_go o_Pr_isInstruction [] 60 (fun K hK => ?_)
  repeat' ((conv => whnf); first | refine ⟨fun h => ?_, fun h => ?_⟩ | refine ⟨?_, ?_⟩ | refine hK _ _ _ _ ?_)
  all_goals first | exact xF_zret o_Pr_isInstruction rfl rfl (Or.inl rfl) ⟨rfl, false, rfl, by grind⟩ | exact xF_zret o_Pr_isInstruction rfl rfl (Or.inr rfl) ⟨rfl, true, rfl, by grind⟩
theorem L_insC_92 (o a b c : Int32) (M : xMe) : xF l G y_Pr_isInstruction 92 [some (.int o), some (.int a), some (.int b), some (.int c)] [] M (fun r M' => M' = M ∧ ∃ z, r = some (.int (b2 z)) ∧ (z = true ↔ vR a ∧ (-255 ≤ b ∧ b ≤ 255) ∧ c = 0)) := by
  unfold vR
  refine xF_go o_Pr_isInstruction [] 60 (fun K hK => ?_)
  repeat' ((conv => whnf); first | refine ⟨fun h => ?_, fun h => ?_⟩ | refine ⟨?_, ?_⟩ | refine hK _ _ _ _ ?_)
  refine xF_callS o_Pr_isInstruction [.int a] rfl z_DS_isRegister s_DS_isRegister l_Pr_64 rfl ⟨⟨by decide, by decide⟩, rfl, rfl⟩ (Nat.le_of_ble_eq_true rfl) rfl (E_isRegister l G a M) ?_
  rintro v M1 ⟨rfl, rfl⟩
  clear hK K
  rename xMe => M
  refine xF_go o_Pr_isInstruction [] 60 (fun K hK => ?_)
  repeat' ((conv => whnf); first | refine ⟨fun h => ?_, fun h => ?_⟩ | refine ⟨?_, ?_⟩ | refine hK _ _ _ _ ?_)
  · first | exact xF_zret o_Pr_isInstruction rfl rfl (Or.inl rfl) ⟨rfl, false, rfl, by grind⟩ | exact xF_zret o_Pr_isInstruction rfl rfl (Or.inr rfl) ⟨rfl, true, rfl, by grind⟩
  refine xF_callS o_Pr_isInstruction [.int b, .int (-255), .int 255] rfl z_DS_within s_DS_within l_Pr_60 rfl ⟨⟨by decide, by decide⟩, rfl, rfl⟩ (Nat.le_of_ble_eq_true rfl) rfl (E_within l G b (-255) 255 M) ?_
  rintro v M1 ⟨rfl, rfl⟩
  clear hK K
  rename xMe => M
  refine xF_go o_Pr_isInstruction [] 60 (fun K hK => ?_)
  repeat' ((conv => whnf); first | refine ⟨fun h => ?_, fun h => ?_⟩ | refine ⟨?_, ?_⟩ | refine hK _ _ _ _ ?_)
  all_goals first | exact xF_zret o_Pr_isInstruction rfl rfl (Or.inl rfl) ⟨rfl, false, rfl, by grind⟩ | exact xF_zret o_Pr_isInstruction rfl rfl (Or.inr rfl) ⟨rfl, true, rfl, by grind⟩
theorem L_insC_122 (o a b c : Int32) (M : xMe) : xF l G y_Pr_isInstruction 122 [some (.int o), some (.int a), some (.int b), some (.int c)] [] M (fun r M' => M' = M ∧ ∃ z, r = some (.int (b2 z)) ∧ (z = true ↔ vR a ∧ vT b ∧ vR c)) := by
  unfold vR vT
  refine xF_go o_Pr_isInstruction [] 60 (fun K hK => ?_)
  repeat' ((conv => whnf); first | refine ⟨fun h => ?_, fun h => ?_⟩ | refine ⟨?_, ?_⟩ | refine hK _ _ _ _ ?_)
  refine xF_callS o_Pr_isInstruction [.int a] rfl z_DS_isRegister s_DS_isRegister l_Pr_64 rfl ⟨⟨by decide, by decide⟩, rfl, rfl⟩ (Nat.le_of_ble_eq_true rfl) rfl (E_isRegister l G a M) ?_
  rintro v M1 ⟨rfl, rfl⟩
  clear hK K
  rename xMe => M
  refine xF_go o_Pr_isInstruction [] 60 (fun K hK => ?_)
  repeat' ((conv => whnf); first | refine ⟨fun h => ?_, fun h => ?_⟩ | refine ⟨?_, ?_⟩ | refine hK _ _ _ _ ?_)
  · first | exact xF_zret o_Pr_isInstruction rfl rfl (Or.inl rfl) ⟨rfl, false, rfl, by grind⟩ | exact xF_zret o_Pr_isInstruction rfl rfl (Or.inr rfl) ⟨rfl, true, rfl, by grind⟩
  refine xF_callS o_Pr_isInstruction [.int b] rfl z_DS_isItemNumber s_DS_isItemNumber l_Pr_56 rfl ⟨⟨by decide, by decide⟩, rfl, rfl⟩ (Nat.le_of_ble_eq_true rfl) rfl (E_isItemNumber l G b M) ?_
  rintro v M1 ⟨rfl, rfl⟩
  clear hK K
  rename xMe => M
  refine xF_go o_Pr_isInstruction [] 60 (fun K hK => ?_)
  repeat' ((conv => whnf); first | refine ⟨fun h => ?_, fun h => ?_⟩ | refine ⟨?_, ?_⟩ | refine hK _ _ _ _ ?_)
  · first | exact xF_zret o_Pr_isInstruction rfl rfl (Or.inl rfl) ⟨rfl, false, rfl, by grind⟩ | exact xF_zret o_Pr_isInstruction rfl rfl (Or.inr rfl) ⟨rfl, true, rfl, by grind⟩
  refine xF_callS o_Pr_isInstruction [.int c] rfl z_DS_isRegister s_DS_isRegister l_Pr_64 rfl ⟨⟨by decide, by decide⟩, rfl, rfl⟩ (Nat.le_of_ble_eq_true rfl) rfl (E_isRegister l G c M) ?_
  rintro v M1 ⟨rfl, rfl⟩
  clear hK K
  rename xMe => M
  refine xF_go o_Pr_isInstruction [] 60 (fun K hK => ?_)
  repeat' ((conv => whnf); first | refine ⟨fun h => ?_, fun h => ?_⟩ | refine ⟨?_, ?_⟩ | refine hK _ _ _ _ ?_)
  all_goals first | exact xF_zret o_Pr_isInstruction rfl rfl (Or.inl rfl) ⟨rfl, false, rfl, by grind⟩ | exact xF_zret o_Pr_isInstruction rfl rfl (Or.inr rfl) ⟨rfl, true, rfl, by grind⟩
theorem L_insC_149 (o a b c : Int32) (M : xMe) : xF l G y_Pr_isInstruction 149 [some (.int o), some (.int a), some (.int b), some (.int c)] [] M (fun r M' => M' = M ∧ ∃ z, r = some (.int (b2 z)) ∧ (z = true ↔ vT a ∧ vR b ∧ vR c)) := by
  unfold vR vT
  refine xF_go o_Pr_isInstruction [] 60 (fun K hK => ?_)
  repeat' ((conv => whnf); first | refine ⟨fun h => ?_, fun h => ?_⟩ | refine ⟨?_, ?_⟩ | refine hK _ _ _ _ ?_)
  refine xF_callS o_Pr_isInstruction [.int a] rfl z_DS_isItemNumber s_DS_isItemNumber l_Pr_56 rfl ⟨⟨by decide, by decide⟩, rfl, rfl⟩ (Nat.le_of_ble_eq_true rfl) rfl (E_isItemNumber l G a M) ?_
  rintro v M1 ⟨rfl, rfl⟩
  clear hK K
  rename xMe => M
  refine xF_go o_Pr_isInstruction [] 60 (fun K hK => ?_)
  repeat' ((conv => whnf); first | refine ⟨fun h => ?_, fun h => ?_⟩ | refine ⟨?_, ?_⟩ | refine hK _ _ _ _ ?_)
  · first | exact xF_zret o_Pr_isInstruction rfl rfl (Or.inl rfl) ⟨rfl, false, rfl, by grind⟩ | exact xF_zret o_Pr_isInstruction rfl rfl (Or.inr rfl) ⟨rfl, true, rfl, by grind⟩
  refine xF_callS o_Pr_isInstruction [.int b] rfl z_DS_isRegister s_DS_isRegister l_Pr_64 rfl ⟨⟨by decide, by decide⟩, rfl, rfl⟩ (Nat.le_of_ble_eq_true rfl) rfl (E_isRegister l G b M) ?_
  rintro v M1 ⟨rfl, rfl⟩
  clear hK K
  rename xMe => M
  refine xF_go o_Pr_isInstruction [] 60 (fun K hK => ?_)
  repeat' ((conv => whnf); first | refine ⟨fun h => ?_, fun h => ?_⟩ | refine ⟨?_, ?_⟩ | refine hK _ _ _ _ ?_)
  · first | exact xF_zret o_Pr_isInstruction rfl rfl (Or.inl rfl) ⟨rfl, false, rfl, by grind⟩ | exact xF_zret o_Pr_isInstruction rfl rfl (Or.inr rfl) ⟨rfl, true, rfl, by grind⟩
  refine xF_callS o_Pr_isInstruction [.int c] rfl z_DS_isRegister s_DS_isRegister l_Pr_64 rfl ⟨⟨by decide, by decide⟩, rfl, rfl⟩ (Nat.le_of_ble_eq_true rfl) rfl (E_isRegister l G c M) ?_
  rintro v M1 ⟨rfl, rfl⟩
  clear hK K
  rename xMe => M
  refine xF_go o_Pr_isInstruction [] 60 (fun K hK => ?_)
  repeat' ((conv => whnf); first | refine ⟨fun h => ?_, fun h => ?_⟩ | refine ⟨?_, ?_⟩ | refine hK _ _ _ _ ?_)
  all_goals first | exact xF_zret o_Pr_isInstruction rfl rfl (Or.inl rfl) ⟨rfl, false, rfl, by grind⟩ | exact xF_zret o_Pr_isInstruction rfl rfl (Or.inr rfl) ⟨rfl, true, rfl, by grind⟩
theorem L_insC_176 (o a b c : Int32) (M : xMe) : xF l G y_Pr_isInstruction 176 [some (.int o), some (.int a), some (.int b), some (.int c)] [] M (fun r M' => M' = M ∧ ∃ z, r = some (.int (b2 z)) ∧ (z = true ↔ (0 ≤ a ∧ a < 12) ∧ b = 0 ∧ c = 0)) := by
  skip
  refine xF_go o_Pr_isInstruction [] 60 (fun K hK => ?_)
  repeat' ((conv => whnf); first | refine ⟨fun h => ?_, fun h => ?_⟩ | refine ⟨?_, ?_⟩ | refine hK _ _ _ _ ?_)
  refine xF_callS o_Pr_isInstruction [.int a] rfl z_DS_isFunction s_DS_isFunction l_Pr_67 rfl ⟨⟨by decide, by decide⟩, rfl, rfl⟩ (Nat.le_of_ble_eq_true rfl) rfl (E_isFunction l G a M) ?_
  rintro v M1 ⟨rfl, rfl⟩
  clear hK K
  rename xMe => M
  refine xF_go o_Pr_isInstruction [] 60 (fun K hK => ?_)
  repeat' ((conv => whnf); first | refine ⟨fun h => ?_, fun h => ?_⟩ | refine ⟨?_, ?_⟩ | refine hK _ _ _ _ ?_)
  all_goals first | exact xF_zret o_Pr_isInstruction rfl rfl (Or.inl rfl) ⟨rfl, false, rfl, by grind⟩ | exact xF_zret o_Pr_isInstruction rfl rfl (Or.inr rfl) ⟨rfl, true, rfl, by grind⟩
theorem L_insC_197 (o a b c : Int32) (M : xMe) : xF l G y_Pr_isInstruction 197 [some (.int o), some (.int a), some (.int b), some (.int c)] [] M (fun r M' => M' = M ∧ ∃ z, r = some (.int (b2 z)) ∧ (z = true ↔ vR a ∧ (-40 ≤ b ∧ b ≤ 40) ∧ c = 0)) := by
  unfold vR
  refine xF_go o_Pr_isInstruction [] 60 (fun K hK => ?_)
  repeat' ((conv => whnf); first | refine ⟨fun h => ?_, fun h => ?_⟩ | refine ⟨?_, ?_⟩ | refine hK _ _ _ _ ?_)
  refine xF_callS o_Pr_isInstruction [.int a] rfl z_DS_isRegister s_DS_isRegister l_Pr_64 rfl ⟨⟨by decide, by decide⟩, rfl, rfl⟩ (Nat.le_of_ble_eq_true rfl) rfl (E_isRegister l G a M) ?_
  rintro v M1 ⟨rfl, rfl⟩
  clear hK K
  rename xMe => M
  refine xF_go o_Pr_isInstruction [] 60 (fun K hK => ?_)
  repeat' ((conv => whnf); first | refine ⟨fun h => ?_, fun h => ?_⟩ | refine ⟨?_, ?_⟩ | refine hK _ _ _ _ ?_)
  · first | exact xF_zret o_Pr_isInstruction rfl rfl (Or.inl rfl) ⟨rfl, false, rfl, by grind⟩ | exact xF_zret o_Pr_isInstruction rfl rfl (Or.inr rfl) ⟨rfl, true, rfl, by grind⟩
  refine xF_callS o_Pr_isInstruction [.int b, .int (-40), .int 40] rfl z_DS_within s_DS_within l_Pr_60 rfl ⟨⟨by decide, by decide⟩, rfl, rfl⟩ (Nat.le_of_ble_eq_true rfl) rfl (E_within l G b (-40) 40 M) ?_
  rintro v M1 ⟨rfl, rfl⟩
  clear hK K
  rename xMe => M
  refine xF_go o_Pr_isInstruction [] 60 (fun K hK => ?_)
  repeat' ((conv => whnf); first | refine ⟨fun h => ?_, fun h => ?_⟩ | refine ⟨?_, ?_⟩ | refine hK _ _ _ _ ?_)
  all_goals first | exact xF_zret o_Pr_isInstruction rfl rfl (Or.inl rfl) ⟨rfl, false, rfl, by grind⟩ | exact xF_zret o_Pr_isInstruction rfl rfl (Or.inr rfl) ⟨rfl, true, rfl, by grind⟩
theorem L_insC_225 (o a b c : Int32) (M : xMe) : xF l G y_Pr_isInstruction 225 [some (.int o), some (.int a), some (.int b), some (.int c)] [] M (fun r M' => M' = M ∧ ∃ z, r = some (.int (b2 z)) ∧ (z = true ↔ vR a ∧ b = 0 ∧ c = 0)) := by
  unfold vR
  refine xF_go o_Pr_isInstruction [] 60 (fun K hK => ?_)
  repeat' ((conv => whnf); first | refine ⟨fun h => ?_, fun h => ?_⟩ | refine ⟨?_, ?_⟩ | refine hK _ _ _ _ ?_)
  refine xF_callS o_Pr_isInstruction [.int a] rfl z_DS_isRegister s_DS_isRegister l_Pr_64 rfl ⟨⟨by decide, by decide⟩, rfl, rfl⟩ (Nat.le_of_ble_eq_true rfl) rfl (E_isRegister l G a M) ?_
  rintro v M1 ⟨rfl, rfl⟩
  clear hK K
  rename xMe => M
  refine xF_go o_Pr_isInstruction [] 60 (fun K hK => ?_)
  repeat' ((conv => whnf); first | refine ⟨fun h => ?_, fun h => ?_⟩ | refine ⟨?_, ?_⟩ | refine hK _ _ _ _ ?_)
  all_goals first | exact xF_zret o_Pr_isInstruction rfl rfl (Or.inl rfl) ⟨rfl, false, rfl, by grind⟩ | exact xF_zret o_Pr_isInstruction rfl rfl (Or.inr rfl) ⟨rfl, true, rfl, by grind⟩
theorem L_insC_246 (o a b c : Int32) (M : xMe) : xF l G y_Pr_isInstruction 246 [some (.int o), some (.int a), some (.int b), some (.int c)] [] M (fun r M' => M' = M ∧ ∃ z, r = some (.int (b2 z)) ∧ (z = true ↔ a = 0 ∧ b = 0 ∧ c = 0)) := by
  skip
  refine xF_go o_Pr_isInstruction [] 60 (fun K hK => ?_)
  repeat' ((conv => whnf); first | refine ⟨fun h => ?_, fun h => ?_⟩ | refine ⟨?_, ?_⟩ | refine hK _ _ _ _ ?_)
  all_goals first | exact xF_zret o_Pr_isInstruction rfl rfl (Or.inl rfl) ⟨rfl, false, rfl, by grind⟩ | exact xF_zret o_Pr_isInstruction rfl rfl (Or.inr rfl) ⟨rfl, true, rfl, by grind⟩
theorem L_insC_264 (o a b c : Int32) (M : xMe) : xF l G y_Pr_isInstruction 264 [some (.int o), some (.int a), some (.int b), some (.int c)] [] M (fun r M' => M' = M ∧ ∃ z, r = some (.int (b2 z)) ∧ (z = true ↔ vR a ∧ vT b ∧ vT c)) := by
  unfold vR vT
  refine xF_go o_Pr_isInstruction [] 60 (fun K hK => ?_)
  repeat' ((conv => whnf); first | refine ⟨fun h => ?_, fun h => ?_⟩ | refine ⟨?_, ?_⟩ | refine hK _ _ _ _ ?_)
  refine xF_callS o_Pr_isInstruction [.int a] rfl z_DS_isRegister s_DS_isRegister l_Pr_64 rfl ⟨⟨by decide, by decide⟩, rfl, rfl⟩ (Nat.le_of_ble_eq_true rfl) rfl (E_isRegister l G a M) ?_
  rintro v M1 ⟨rfl, rfl⟩
  clear hK K
  rename xMe => M
  refine xF_go o_Pr_isInstruction [] 60 (fun K hK => ?_)
  repeat' ((conv => whnf); first | refine ⟨fun h => ?_, fun h => ?_⟩ | refine ⟨?_, ?_⟩ | refine hK _ _ _ _ ?_)
  · first | exact xF_zret o_Pr_isInstruction rfl rfl (Or.inl rfl) ⟨rfl, false, rfl, by grind⟩ | exact xF_zret o_Pr_isInstruction rfl rfl (Or.inr rfl) ⟨rfl, true, rfl, by grind⟩
  refine xF_callS o_Pr_isInstruction [.int b] rfl z_DS_isItemNumber s_DS_isItemNumber l_Pr_56 rfl ⟨⟨by decide, by decide⟩, rfl, rfl⟩ (Nat.le_of_ble_eq_true rfl) rfl (E_isItemNumber l G b M) ?_
  rintro v M1 ⟨rfl, rfl⟩
  clear hK K
  rename xMe => M
  refine xF_go o_Pr_isInstruction [] 60 (fun K hK => ?_)
  repeat' ((conv => whnf); first | refine ⟨fun h => ?_, fun h => ?_⟩ | refine ⟨?_, ?_⟩ | refine hK _ _ _ _ ?_)
  · first | exact xF_zret o_Pr_isInstruction rfl rfl (Or.inl rfl) ⟨rfl, false, rfl, by grind⟩ | exact xF_zret o_Pr_isInstruction rfl rfl (Or.inr rfl) ⟨rfl, true, rfl, by grind⟩
  refine xF_callS o_Pr_isInstruction [.int c] rfl z_DS_isItemNumber s_DS_isItemNumber l_Pr_56 rfl ⟨⟨by decide, by decide⟩, rfl, rfl⟩ (Nat.le_of_ble_eq_true rfl) rfl (E_isItemNumber l G c M) ?_
  rintro v M1 ⟨rfl, rfl⟩
  clear hK K
  rename xMe => M
  refine xF_go o_Pr_isInstruction [] 60 (fun K hK => ?_)
  repeat' ((conv => whnf); first | refine ⟨fun h => ?_, fun h => ?_⟩ | refine ⟨?_, ?_⟩ | refine hK _ _ _ _ ?_)
  all_goals first | exact xF_zret o_Pr_isInstruction rfl rfl (Or.inl rfl) ⟨rfl, false, rfl, by grind⟩ | exact xF_zret o_Pr_isInstruction rfl rfl (Or.inr rfl) ⟨rfl, true, rfl, by grind⟩
theorem E_isInstruction (o a b c : Int32) (M : xMe) : xE l G y_Pr_isInstruction [.int o, .int a, .int b, .int c] M (fun r M' => M' = M ∧ ∃ z, r = some (.int (b2 z)) ∧ (z = true ↔ vIns o a b c)) := by
  refine xE_of [some (.int o), some (.int a), some (.int b), some (.int c)] (by decide +kernel) (Nat.le_of_ble_eq_true rfl) rfl ?_
  refine xF_go o_Pr_isInstruction [64, 92, 122, 149, 176, 197, 225, 246, 264, 291] 60 (fun K hK => ?_)
  repeat' ((conv => whnf); first | refine ⟨fun h => ?_, fun h => ?_⟩ | refine ⟨?_, ?_⟩ | refine hK _ _ _ _ ?_)
  · refine xF_post ?_ (L_insC_64 l G o a b c M)
    rintro v M' ⟨rfl, z, rfl, hz⟩
    have h0 : o = 0 := by first | exact h | assumption
    subst h0
    exact ⟨rfl, z, rfl, hz.trans (by unfold vIns; grind)⟩
  · refine xF_post ?_ (L_insC_92 l G o a b c M)
    rintro v M' ⟨rfl, z, rfl, hz⟩
    have h0 : o = 1 := by first | exact h | assumption
    subst h0
    exact ⟨rfl, z, rfl, hz.trans (by unfold vIns; grind)⟩
  · refine xF_post ?_ (L_insC_64 l G o a b c M)
    rintro v M' ⟨rfl, z, rfl, hz⟩
    have h0 : o = 2 := by first | exact h | assumption
    subst h0
    exact ⟨rfl, z, rfl, hz.trans (by unfold vIns; grind)⟩
  · refine xF_post ?_ (L_insC_122 l G o a b c M)
    rintro v M' ⟨rfl, z, rfl, hz⟩
    have h0 : o = 3 := by first | exact h | assumption
    subst h0
    exact ⟨rfl, z, rfl, hz.trans (by unfold vIns; grind)⟩
  · refine xF_post ?_ (L_insC_149 l G o a b c M)
    rintro v M' ⟨rfl, z, rfl, hz⟩
    have h0 : o = 4 := by first | exact h | assumption
    subst h0
    exact ⟨rfl, z, rfl, hz.trans (by unfold vIns; grind)⟩
  · refine xF_post ?_ (L_insC_176 l G o a b c M)
    rintro v M' ⟨rfl, z, rfl, hz⟩
    have h0 : o = 5 := by first | exact h | assumption
    subst h0
    exact ⟨rfl, z, rfl, hz.trans (by unfold vIns; grind)⟩
  · refine xF_post ?_ (L_insC_197 l G o a b c M)
    rintro v M' ⟨rfl, z, rfl, hz⟩
    have h0 : o = 6 := by first | exact h | assumption
    subst h0
    exact ⟨rfl, z, rfl, hz.trans (by unfold vIns; grind)⟩
  · refine xF_post ?_ (L_insC_225 l G o a b c M)
    rintro v M' ⟨rfl, z, rfl, hz⟩
    have h0 : o = 7 := by first | exact h | assumption
    subst h0
    exact ⟨rfl, z, rfl, hz.trans (by unfold vIns; grind)⟩
  · refine xF_post ?_ (L_insC_246 l G o a b c M)
    rintro v M' ⟨rfl, z, rfl, hz⟩
    have h0 : o = 8 := by first | exact h | assumption
    subst h0
    exact ⟨rfl, z, rfl, hz.trans (by unfold vIns; grind)⟩
  · refine xF_post ?_ (L_insC_225 l G o a b c M)
    rintro v M' ⟨rfl, z, rfl, hz⟩
    have h0 : o = 9 := by first | exact h | assumption
    subst h0
    exact ⟨rfl, z, rfl, hz.trans (by unfold vIns; grind)⟩
  · refine xF_post ?_ (L_insC_264 l G o a b c M)
    rintro v M' ⟨rfl, z, rfl, hz⟩
    have h0 : o = 10 := by first | exact h | assumption
    subst h0
    exact ⟨rfl, z, rfl, hz.trans (by unfold vIns; grind)⟩
  · refine xF_post ?_ (L_insC_122 l G o a b c M)
    rintro v M' ⟨rfl, z, rfl, hz⟩
    have h0 : o = 11 := by first | exact h | assumption
    subst h0
    exact ⟨rfl, z, rfl, hz.trans (by unfold vIns; grind)⟩
  · refine xF_go o_Pr_isInstruction [] 60 (fun K hK => ?_)
    repeat' ((conv => whnf); first | refine ⟨fun h => ?_, fun h => ?_⟩ | refine ⟨?_, ?_⟩ | refine hK _ _ _ _ ?_)
    exact xF_zret o_Pr_isInstruction rfl rfl (Or.inl rfl) ⟨rfl, false, rfl, by unfold vIns; grind⟩
theorem L_insM_64 (o a b c : Int32) (M : xMe) : xF l G y_Mo_isTold 64 [some (.int o), some (.int a), some (.int b), some (.int c)] [] M (fun r M' => M' = M ∧ ∃ z, r = some (.int (b2 z)) ∧ (z = true ↔ vR a ∧ (0 ≤ b ∧ b ≤ 255) ∧ c = 0)) := by
  unfold vR
  refine xF_go o_Mo_isTold [] 60 (fun K hK => ?_)
  repeat' ((conv => whnf); first | refine ⟨fun h => ?_, fun h => ?_⟩ | refine ⟨?_, ?_⟩ | refine hK _ _ _ _ ?_)
  refine xF_callS o_Mo_isTold [.int a] rfl z_Mo_isRegister s_Mo_isRegister l_Mo_171 rfl ⟨⟨by decide, by decide⟩, rfl, rfl⟩ (Nat.le_of_ble_eq_true rfl) rfl (E_MisRegister l G a M) ?_
  rintro v M1 ⟨rfl, rfl⟩
  clear hK K
  rename xMe => M
  refine xF_go o_Mo_isTold [] 60 (fun K hK => ?_)
  repeat' ((conv => whnf); first | refine ⟨fun h => ?_, fun h => ?_⟩ | refine ⟨?_, ?_⟩ | refine hK _ _ _ _ ?_)
  · first | exact xF_zret o_Mo_isTold rfl rfl (Or.inl rfl) ⟨rfl, false, rfl, by grind⟩ | exact xF_zret o_Mo_isTold rfl rfl (Or.inr rfl) ⟨rfl, true, rfl, by grind⟩
  refine xF_callS o_Mo_isTold [.int b, .int 0, .int 255] rfl z_Mo_in s_Mo_in l_Mo_157 rfl ⟨⟨by decide, by decide⟩, rfl, rfl⟩ (Nat.le_of_ble_eq_true rfl) rfl (E_in l G b 0 255 M) ?_
  rintro v M1 ⟨rfl, rfl⟩
  clear hK K
  rename xMe => M
  refine xF_go o_Mo_isTold [] 60 (fun K hK => ?_)
  repeat' ((conv => whnf); first | refine ⟨fun h => ?_, fun h => ?_⟩ | refine ⟨?_, ?_⟩ | refine hK _ _ _ _ ?_)
  all_goals first | exact xF_zret o_Mo_isTold rfl rfl (Or.inl rfl) ⟨rfl, false, rfl, by grind⟩ | exact xF_zret o_Mo_isTold rfl rfl (Or.inr rfl) ⟨rfl, true, rfl, by grind⟩
theorem L_insM_92 (o a b c : Int32) (M : xMe) : xF l G y_Mo_isTold 92 [some (.int o), some (.int a), some (.int b), some (.int c)] [] M (fun r M' => M' = M ∧ ∃ z, r = some (.int (b2 z)) ∧ (z = true ↔ vR a ∧ (-255 ≤ b ∧ b ≤ 255) ∧ c = 0)) := by
  unfold vR
  refine xF_go o_Mo_isTold [] 60 (fun K hK => ?_)
  repeat' ((conv => whnf); first | refine ⟨fun h => ?_, fun h => ?_⟩ | refine ⟨?_, ?_⟩ | refine hK _ _ _ _ ?_)
  refine xF_callS o_Mo_isTold [.int a] rfl z_Mo_isRegister s_Mo_isRegister l_Mo_171 rfl ⟨⟨by decide, by decide⟩, rfl, rfl⟩ (Nat.le_of_ble_eq_true rfl) rfl (E_MisRegister l G a M) ?_
  rintro v M1 ⟨rfl, rfl⟩
  clear hK K
  rename xMe => M
  refine xF_go o_Mo_isTold [] 60 (fun K hK => ?_)
  repeat' ((conv => whnf); first | refine ⟨fun h => ?_, fun h => ?_⟩ | refine ⟨?_, ?_⟩ | refine hK _ _ _ _ ?_)
  · first | exact xF_zret o_Mo_isTold rfl rfl (Or.inl rfl) ⟨rfl, false, rfl, by grind⟩ | exact xF_zret o_Mo_isTold rfl rfl (Or.inr rfl) ⟨rfl, true, rfl, by grind⟩
  refine xF_callS o_Mo_isTold [.int b, .int (-255), .int 255] rfl z_Mo_in s_Mo_in l_Mo_157 rfl ⟨⟨by decide, by decide⟩, rfl, rfl⟩ (Nat.le_of_ble_eq_true rfl) rfl (E_in l G b (-255) 255 M) ?_
  rintro v M1 ⟨rfl, rfl⟩
  clear hK K
  rename xMe => M
  refine xF_go o_Mo_isTold [] 60 (fun K hK => ?_)
  repeat' ((conv => whnf); first | refine ⟨fun h => ?_, fun h => ?_⟩ | refine ⟨?_, ?_⟩ | refine hK _ _ _ _ ?_)
  all_goals first | exact xF_zret o_Mo_isTold rfl rfl (Or.inl rfl) ⟨rfl, false, rfl, by grind⟩ | exact xF_zret o_Mo_isTold rfl rfl (Or.inr rfl) ⟨rfl, true, rfl, by grind⟩
theorem L_insM_122 (o a b c : Int32) (M : xMe) : xF l G y_Mo_isTold 122 [some (.int o), some (.int a), some (.int b), some (.int c)] [] M (fun r M' => M' = M ∧ ∃ z, r = some (.int (b2 z)) ∧ (z = true ↔ vR a ∧ vT b ∧ vR c)) := by
  unfold vR vT
  refine xF_go o_Mo_isTold [] 60 (fun K hK => ?_)
  repeat' ((conv => whnf); first | refine ⟨fun h => ?_, fun h => ?_⟩ | refine ⟨?_, ?_⟩ | refine hK _ _ _ _ ?_)
  refine xF_callS o_Mo_isTold [.int a] rfl z_Mo_isRegister s_Mo_isRegister l_Mo_171 rfl ⟨⟨by decide, by decide⟩, rfl, rfl⟩ (Nat.le_of_ble_eq_true rfl) rfl (E_MisRegister l G a M) ?_
  rintro v M1 ⟨rfl, rfl⟩
  clear hK K
  rename xMe => M
  refine xF_go o_Mo_isTold [] 60 (fun K hK => ?_)
  repeat' ((conv => whnf); first | refine ⟨fun h => ?_, fun h => ?_⟩ | refine ⟨?_, ?_⟩ | refine hK _ _ _ _ ?_)
  · first | exact xF_zret o_Mo_isTold rfl rfl (Or.inl rfl) ⟨rfl, false, rfl, by grind⟩ | exact xF_zret o_Mo_isTold rfl rfl (Or.inr rfl) ⟨rfl, true, rfl, by grind⟩
  refine xF_callS o_Mo_isTold [.int b] rfl z_Mo_isItem s_Mo_isItem l_Mo_175 rfl ⟨⟨by decide, by decide⟩, rfl, rfl⟩ (Nat.le_of_ble_eq_true rfl) rfl (E_MisItem l G b M) ?_
  rintro v M1 ⟨rfl, rfl⟩
  clear hK K
  rename xMe => M
  refine xF_go o_Mo_isTold [] 60 (fun K hK => ?_)
  repeat' ((conv => whnf); first | refine ⟨fun h => ?_, fun h => ?_⟩ | refine ⟨?_, ?_⟩ | refine hK _ _ _ _ ?_)
  · first | exact xF_zret o_Mo_isTold rfl rfl (Or.inl rfl) ⟨rfl, false, rfl, by grind⟩ | exact xF_zret o_Mo_isTold rfl rfl (Or.inr rfl) ⟨rfl, true, rfl, by grind⟩
  refine xF_callS o_Mo_isTold [.int c] rfl z_Mo_isRegister s_Mo_isRegister l_Mo_171 rfl ⟨⟨by decide, by decide⟩, rfl, rfl⟩ (Nat.le_of_ble_eq_true rfl) rfl (E_MisRegister l G c M) ?_
  rintro v M1 ⟨rfl, rfl⟩
  clear hK K
  rename xMe => M
  refine xF_go o_Mo_isTold [] 60 (fun K hK => ?_)
  repeat' ((conv => whnf); first | refine ⟨fun h => ?_, fun h => ?_⟩ | refine ⟨?_, ?_⟩ | refine hK _ _ _ _ ?_)
  all_goals first | exact xF_zret o_Mo_isTold rfl rfl (Or.inl rfl) ⟨rfl, false, rfl, by grind⟩ | exact xF_zret o_Mo_isTold rfl rfl (Or.inr rfl) ⟨rfl, true, rfl, by grind⟩
theorem L_insM_149 (o a b c : Int32) (M : xMe) : xF l G y_Mo_isTold 149 [some (.int o), some (.int a), some (.int b), some (.int c)] [] M (fun r M' => M' = M ∧ ∃ z, r = some (.int (b2 z)) ∧ (z = true ↔ vT a ∧ vR b ∧ vR c)) := by
  unfold vR vT
  refine xF_go o_Mo_isTold [] 60 (fun K hK => ?_)
  repeat' ((conv => whnf); first | refine ⟨fun h => ?_, fun h => ?_⟩ | refine ⟨?_, ?_⟩ | refine hK _ _ _ _ ?_)
  refine xF_callS o_Mo_isTold [.int a] rfl z_Mo_isItem s_Mo_isItem l_Mo_175 rfl ⟨⟨by decide, by decide⟩, rfl, rfl⟩ (Nat.le_of_ble_eq_true rfl) rfl (E_MisItem l G a M) ?_
  rintro v M1 ⟨rfl, rfl⟩
  clear hK K
  rename xMe => M
  refine xF_go o_Mo_isTold [] 60 (fun K hK => ?_)
  repeat' ((conv => whnf); first | refine ⟨fun h => ?_, fun h => ?_⟩ | refine ⟨?_, ?_⟩ | refine hK _ _ _ _ ?_)
  · first | exact xF_zret o_Mo_isTold rfl rfl (Or.inl rfl) ⟨rfl, false, rfl, by grind⟩ | exact xF_zret o_Mo_isTold rfl rfl (Or.inr rfl) ⟨rfl, true, rfl, by grind⟩
  refine xF_callS o_Mo_isTold [.int b] rfl z_Mo_isRegister s_Mo_isRegister l_Mo_171 rfl ⟨⟨by decide, by decide⟩, rfl, rfl⟩ (Nat.le_of_ble_eq_true rfl) rfl (E_MisRegister l G b M) ?_
  rintro v M1 ⟨rfl, rfl⟩
  clear hK K
  rename xMe => M
  refine xF_go o_Mo_isTold [] 60 (fun K hK => ?_)
  repeat' ((conv => whnf); first | refine ⟨fun h => ?_, fun h => ?_⟩ | refine ⟨?_, ?_⟩ | refine hK _ _ _ _ ?_)
  · first | exact xF_zret o_Mo_isTold rfl rfl (Or.inl rfl) ⟨rfl, false, rfl, by grind⟩ | exact xF_zret o_Mo_isTold rfl rfl (Or.inr rfl) ⟨rfl, true, rfl, by grind⟩
  refine xF_callS o_Mo_isTold [.int c] rfl z_Mo_isRegister s_Mo_isRegister l_Mo_171 rfl ⟨⟨by decide, by decide⟩, rfl, rfl⟩ (Nat.le_of_ble_eq_true rfl) rfl (E_MisRegister l G c M) ?_
  rintro v M1 ⟨rfl, rfl⟩
  clear hK K
  rename xMe => M
  refine xF_go o_Mo_isTold [] 60 (fun K hK => ?_)
  repeat' ((conv => whnf); first | refine ⟨fun h => ?_, fun h => ?_⟩ | refine ⟨?_, ?_⟩ | refine hK _ _ _ _ ?_)
  all_goals first | exact xF_zret o_Mo_isTold rfl rfl (Or.inl rfl) ⟨rfl, false, rfl, by grind⟩ | exact xF_zret o_Mo_isTold rfl rfl (Or.inr rfl) ⟨rfl, true, rfl, by grind⟩
theorem L_insM_176 (o a b c : Int32) (M : xMe) : xF l G y_Mo_isTold 176 [some (.int o), some (.int a), some (.int b), some (.int c)] [] M (fun r M' => M' = M ∧ ∃ z, r = some (.int (b2 z)) ∧ (z = true ↔ (0 ≤ a ∧ a < 12) ∧ b = 0 ∧ c = 0)) := by
  skip
  refine xF_go o_Mo_isTold [] 60 (fun K hK => ?_)
  repeat' ((conv => whnf); first | refine ⟨fun h => ?_, fun h => ?_⟩ | refine ⟨?_, ?_⟩ | refine hK _ _ _ _ ?_)
  refine xF_callS o_Mo_isTold [.int a, .int 0, .int 11] rfl z_Mo_in s_Mo_in l_Mo_157 rfl ⟨⟨by decide, by decide⟩, rfl, rfl⟩ (Nat.le_of_ble_eq_true rfl) rfl (E_in l G a 0 11 M) ?_
  rintro v M1 ⟨rfl, rfl⟩
  clear hK K
  rename xMe => M
  refine xF_go o_Mo_isTold [] 60 (fun K hK => ?_)
  repeat' ((conv => whnf); first | refine ⟨fun h => ?_, fun h => ?_⟩ | refine ⟨?_, ?_⟩ | refine hK _ _ _ _ ?_)
  all_goals first | exact xF_zret o_Mo_isTold rfl rfl (Or.inl rfl) ⟨rfl, false, rfl, by grind⟩ | exact xF_zret o_Mo_isTold rfl rfl (Or.inr rfl) ⟨rfl, true, rfl, by grind⟩
theorem L_insM_200 (o a b c : Int32) (M : xMe) : xF l G y_Mo_isTold 200 [some (.int o), some (.int a), some (.int b), some (.int c)] [] M (fun r M' => M' = M ∧ ∃ z, r = some (.int (b2 z)) ∧ (z = true ↔ vR a ∧ (-40 ≤ b ∧ b ≤ 40) ∧ c = 0)) := by
  unfold vR
  refine xF_go o_Mo_isTold [] 60 (fun K hK => ?_)
  repeat' ((conv => whnf); first | refine ⟨fun h => ?_, fun h => ?_⟩ | refine ⟨?_, ?_⟩ | refine hK _ _ _ _ ?_)
  refine xF_callS o_Mo_isTold [.int a] rfl z_Mo_isRegister s_Mo_isRegister l_Mo_171 rfl ⟨⟨by decide, by decide⟩, rfl, rfl⟩ (Nat.le_of_ble_eq_true rfl) rfl (E_MisRegister l G a M) ?_
  rintro v M1 ⟨rfl, rfl⟩
  clear hK K
  rename xMe => M
  refine xF_go o_Mo_isTold [] 60 (fun K hK => ?_)
  repeat' ((conv => whnf); first | refine ⟨fun h => ?_, fun h => ?_⟩ | refine ⟨?_, ?_⟩ | refine hK _ _ _ _ ?_)
  · first | exact xF_zret o_Mo_isTold rfl rfl (Or.inl rfl) ⟨rfl, false, rfl, by grind⟩ | exact xF_zret o_Mo_isTold rfl rfl (Or.inr rfl) ⟨rfl, true, rfl, by grind⟩
  refine xF_callS o_Mo_isTold [.int b, .int (-40), .int 40] rfl z_Mo_in s_Mo_in l_Mo_157 rfl ⟨⟨by decide, by decide⟩, rfl, rfl⟩ (Nat.le_of_ble_eq_true rfl) rfl (E_in l G b (-40) 40 M) ?_
  rintro v M1 ⟨rfl, rfl⟩
  clear hK K
  rename xMe => M
  refine xF_go o_Mo_isTold [] 60 (fun K hK => ?_)
  repeat' ((conv => whnf); first | refine ⟨fun h => ?_, fun h => ?_⟩ | refine ⟨?_, ?_⟩ | refine hK _ _ _ _ ?_)
  all_goals first | exact xF_zret o_Mo_isTold rfl rfl (Or.inl rfl) ⟨rfl, false, rfl, by grind⟩ | exact xF_zret o_Mo_isTold rfl rfl (Or.inr rfl) ⟨rfl, true, rfl, by grind⟩
theorem L_insM_228 (o a b c : Int32) (M : xMe) : xF l G y_Mo_isTold 228 [some (.int o), some (.int a), some (.int b), some (.int c)] [] M (fun r M' => M' = M ∧ ∃ z, r = some (.int (b2 z)) ∧ (z = true ↔ vR a ∧ b = 0 ∧ c = 0)) := by
  unfold vR
  refine xF_go o_Mo_isTold [] 60 (fun K hK => ?_)
  repeat' ((conv => whnf); first | refine ⟨fun h => ?_, fun h => ?_⟩ | refine ⟨?_, ?_⟩ | refine hK _ _ _ _ ?_)
  refine xF_callS o_Mo_isTold [.int a] rfl z_Mo_isRegister s_Mo_isRegister l_Mo_171 rfl ⟨⟨by decide, by decide⟩, rfl, rfl⟩ (Nat.le_of_ble_eq_true rfl) rfl (E_MisRegister l G a M) ?_
  rintro v M1 ⟨rfl, rfl⟩
  clear hK K
  rename xMe => M
  refine xF_go o_Mo_isTold [] 60 (fun K hK => ?_)
  repeat' ((conv => whnf); first | refine ⟨fun h => ?_, fun h => ?_⟩ | refine ⟨?_, ?_⟩ | refine hK _ _ _ _ ?_)
  all_goals first | exact xF_zret o_Mo_isTold rfl rfl (Or.inl rfl) ⟨rfl, false, rfl, by grind⟩ | exact xF_zret o_Mo_isTold rfl rfl (Or.inr rfl) ⟨rfl, true, rfl, by grind⟩
theorem L_insM_249 (o a b c : Int32) (M : xMe) : xF l G y_Mo_isTold 249 [some (.int o), some (.int a), some (.int b), some (.int c)] [] M (fun r M' => M' = M ∧ ∃ z, r = some (.int (b2 z)) ∧ (z = true ↔ a = 0 ∧ b = 0 ∧ c = 0)) := by
  skip
  refine xF_go o_Mo_isTold [] 60 (fun K hK => ?_)
  repeat' ((conv => whnf); first | refine ⟨fun h => ?_, fun h => ?_⟩ | refine ⟨?_, ?_⟩ | refine hK _ _ _ _ ?_)
  all_goals first | exact xF_zret o_Mo_isTold rfl rfl (Or.inl rfl) ⟨rfl, false, rfl, by grind⟩ | exact xF_zret o_Mo_isTold rfl rfl (Or.inr rfl) ⟨rfl, true, rfl, by grind⟩
theorem L_insM_267 (o a b c : Int32) (M : xMe) : xF l G y_Mo_isTold 267 [some (.int o), some (.int a), some (.int b), some (.int c)] [] M (fun r M' => M' = M ∧ ∃ z, r = some (.int (b2 z)) ∧ (z = true ↔ vR a ∧ vT b ∧ vT c)) := by
  unfold vR vT
  refine xF_go o_Mo_isTold [] 60 (fun K hK => ?_)
  repeat' ((conv => whnf); first | refine ⟨fun h => ?_, fun h => ?_⟩ | refine ⟨?_, ?_⟩ | refine hK _ _ _ _ ?_)
  refine xF_callS o_Mo_isTold [.int a] rfl z_Mo_isRegister s_Mo_isRegister l_Mo_171 rfl ⟨⟨by decide, by decide⟩, rfl, rfl⟩ (Nat.le_of_ble_eq_true rfl) rfl (E_MisRegister l G a M) ?_
  rintro v M1 ⟨rfl, rfl⟩
  clear hK K
  rename xMe => M
  refine xF_go o_Mo_isTold [] 60 (fun K hK => ?_)
  repeat' ((conv => whnf); first | refine ⟨fun h => ?_, fun h => ?_⟩ | refine ⟨?_, ?_⟩ | refine hK _ _ _ _ ?_)
  · first | exact xF_zret o_Mo_isTold rfl rfl (Or.inl rfl) ⟨rfl, false, rfl, by grind⟩ | exact xF_zret o_Mo_isTold rfl rfl (Or.inr rfl) ⟨rfl, true, rfl, by grind⟩
  refine xF_callS o_Mo_isTold [.int b] rfl z_Mo_isItem s_Mo_isItem l_Mo_175 rfl ⟨⟨by decide, by decide⟩, rfl, rfl⟩ (Nat.le_of_ble_eq_true rfl) rfl (E_MisItem l G b M) ?_
  rintro v M1 ⟨rfl, rfl⟩
  clear hK K
  rename xMe => M
  refine xF_go o_Mo_isTold [] 60 (fun K hK => ?_)
  repeat' ((conv => whnf); first | refine ⟨fun h => ?_, fun h => ?_⟩ | refine ⟨?_, ?_⟩ | refine hK _ _ _ _ ?_)
  · first | exact xF_zret o_Mo_isTold rfl rfl (Or.inl rfl) ⟨rfl, false, rfl, by grind⟩ | exact xF_zret o_Mo_isTold rfl rfl (Or.inr rfl) ⟨rfl, true, rfl, by grind⟩
  refine xF_callS o_Mo_isTold [.int c] rfl z_Mo_isItem s_Mo_isItem l_Mo_175 rfl ⟨⟨by decide, by decide⟩, rfl, rfl⟩ (Nat.le_of_ble_eq_true rfl) rfl (E_MisItem l G c M) ?_
  rintro v M1 ⟨rfl, rfl⟩
  clear hK K
  rename xMe => M
  refine xF_go o_Mo_isTold [] 60 (fun K hK => ?_)
  repeat' ((conv => whnf); first | refine ⟨fun h => ?_, fun h => ?_⟩ | refine ⟨?_, ?_⟩ | refine hK _ _ _ _ ?_)
  all_goals first | exact xF_zret o_Mo_isTold rfl rfl (Or.inl rfl) ⟨rfl, false, rfl, by grind⟩ | exact xF_zret o_Mo_isTold rfl rfl (Or.inr rfl) ⟨rfl, true, rfl, by grind⟩
theorem E_isTold (o a b c : Int32) (M : xMe) : xE l G y_Mo_isTold [.int o, .int a, .int b, .int c] M (fun r M' => M' = M ∧ ∃ z, r = some (.int (b2 z)) ∧ (z = true ↔ vIns o a b c)) := by
  refine xE_of [some (.int o), some (.int a), some (.int b), some (.int c)] (by decide +kernel) (Nat.le_of_ble_eq_true rfl) rfl ?_
  refine xF_go o_Mo_isTold [64, 92, 122, 149, 176, 200, 228, 249, 267, 294] 60 (fun K hK => ?_)
  repeat' ((conv => whnf); first | refine ⟨fun h => ?_, fun h => ?_⟩ | refine ⟨?_, ?_⟩ | refine hK _ _ _ _ ?_)
  · refine xF_post ?_ (L_insM_64 l G o a b c M)
    rintro v M' ⟨rfl, z, rfl, hz⟩
    have h0 : o = 0 := by first | exact h | assumption
    subst h0
    exact ⟨rfl, z, rfl, hz.trans (by unfold vIns; grind)⟩
  · refine xF_post ?_ (L_insM_92 l G o a b c M)
    rintro v M' ⟨rfl, z, rfl, hz⟩
    have h0 : o = 1 := by first | exact h | assumption
    subst h0
    exact ⟨rfl, z, rfl, hz.trans (by unfold vIns; grind)⟩
  · refine xF_post ?_ (L_insM_64 l G o a b c M)
    rintro v M' ⟨rfl, z, rfl, hz⟩
    have h0 : o = 2 := by first | exact h | assumption
    subst h0
    exact ⟨rfl, z, rfl, hz.trans (by unfold vIns; grind)⟩
  · refine xF_post ?_ (L_insM_122 l G o a b c M)
    rintro v M' ⟨rfl, z, rfl, hz⟩
    have h0 : o = 3 := by first | exact h | assumption
    subst h0
    exact ⟨rfl, z, rfl, hz.trans (by unfold vIns; grind)⟩
  · refine xF_post ?_ (L_insM_149 l G o a b c M)
    rintro v M' ⟨rfl, z, rfl, hz⟩
    have h0 : o = 4 := by first | exact h | assumption
    subst h0
    exact ⟨rfl, z, rfl, hz.trans (by unfold vIns; grind)⟩
  · refine xF_post ?_ (L_insM_176 l G o a b c M)
    rintro v M' ⟨rfl, z, rfl, hz⟩
    have h0 : o = 5 := by first | exact h | assumption
    subst h0
    exact ⟨rfl, z, rfl, hz.trans (by unfold vIns; grind)⟩
  · refine xF_post ?_ (L_insM_200 l G o a b c M)
    rintro v M' ⟨rfl, z, rfl, hz⟩
    have h0 : o = 6 := by first | exact h | assumption
    subst h0
    exact ⟨rfl, z, rfl, hz.trans (by unfold vIns; grind)⟩
  · refine xF_post ?_ (L_insM_228 l G o a b c M)
    rintro v M' ⟨rfl, z, rfl, hz⟩
    have h0 : o = 7 := by first | exact h | assumption
    subst h0
    exact ⟨rfl, z, rfl, hz.trans (by unfold vIns; grind)⟩
  · refine xF_post ?_ (L_insM_249 l G o a b c M)
    rintro v M' ⟨rfl, z, rfl, hz⟩
    have h0 : o = 8 := by first | exact h | assumption
    subst h0
    exact ⟨rfl, z, rfl, hz.trans (by unfold vIns; grind)⟩
  · refine xF_post ?_ (L_insM_228 l G o a b c M)
    rintro v M' ⟨rfl, z, rfl, hz⟩
    have h0 : o = 9 := by first | exact h | assumption
    subst h0
    exact ⟨rfl, z, rfl, hz.trans (by unfold vIns; grind)⟩
  · refine xF_post ?_ (L_insM_267 l G o a b c M)
    rintro v M' ⟨rfl, z, rfl, hz⟩
    have h0 : o = 10 := by first | exact h | assumption
    subst h0
    exact ⟨rfl, z, rfl, hz.trans (by unfold vIns; grind)⟩
  · refine xF_post ?_ (L_insM_122 l G o a b c M)
    rintro v M' ⟨rfl, z, rfl, hz⟩
    have h0 : o = 11 := by first | exact h | assumption
    subst h0
    exact ⟨rfl, z, rfl, hz.trans (by unfold vIns; grind)⟩
  · refine xF_go o_Mo_isTold [] 60 (fun K hK => ?_)
    repeat' ((conv => whnf); first | refine ⟨fun h => ?_, fun h => ?_⟩ | refine ⟨?_, ?_⟩ | refine hK _ _ _ _ ?_)
    exact xF_zret o_Mo_isTold rfl rfl (Or.inl rfl) ⟨rfl, false, rfl, by unfold vIns; grind⟩
end XIN
end
section
/-! Program: what is told -/
section XTL
variable (l : Launch) (G : xG)
/-- bits behind the clearing of references to an item, up to place (k, p) -/
def fgI (M0 : xMe) (s : Nat → Nat) (gone : Int32) (k p : Nat) (f : Nat → Int64) : Prop := ∀ j, j < 24 → ∀ q, q < 64 → xbit (f j) q = (xbit (M0.2 8 j) q && !(decide ((j < k ∨ (j = k ∧ q < p)) ∧ q < s j ∧ M0.1 7 (j * 64 + q) = gone)))
theorem fgI_same {M0 : xMe} {s : Nat → Nat} {gone : Int32} {k p : Nat} {f : Nat → Int64} (h : fgI M0 s gone k p f) (hn : ¬ M0.1 7 (k * 64 + p) = gone) : fgI M0 s gone k (p + 1) f := by
  intro j hj q hq
  rw [h j hj q hq]
  congr 2
  apply decide_eq_decide.mpr
  constructor
  · rintro ⟨h1, h2⟩
    exact ⟨by omega, h2⟩
  · rintro ⟨h1, h2, h3⟩
    refine ⟨?_, h2, h3⟩
    rcases h1 with h1 | ⟨rfl, h1⟩
    · exact Or.inl h1
    · refine Or.inr ⟨rfl, ?_⟩
      have : q ≠ p := fun e => hn (e ▸ h3)
      omega
theorem fgI_set {M0 : xMe} {s : Nat → Nat} {gone : Int32} {k p : Nat} {f : Nat → Int64} (hp : p < 64) (hs : p < s k) (h : fgI M0 s gone k p f) (hn : M0.1 7 (k * 64 + p) = gone) : fgI M0 s gone k (p + 1) (vp_updL f k (f k &&& ((1 : Int64) <<< ((nI p).toInt64 &&& 63) ^^^ -1))) := by
  intro j hj q hq
  unfold vp_updL
  by_cases hjk : j = k
  · subst hjk
    rw [if_pos rfl, xbit_and, xbit_not _ hq, xbit_1 hp, h j hj q hq]
    by_cases hqp : q = p
    · subst hqp
      simp [hs, hn]
    · have e : decide ((j < j ∨ j = j ∧ q < p) ∧ q < s j ∧ M0.1 7 (j * 64 + q) = gone) = decide ((j < j ∨ j = j ∧ q < p + 1) ∧ q < s j ∧ M0.1 7 (j * 64 + q) = gone) := by
        apply decide_eq_decide.mpr
        constructor
        · rintro ⟨h1, h2⟩; exact ⟨by omega, h2⟩
        · rintro ⟨h1, h2⟩; exact ⟨by omega, h2⟩
      rw [e]
      simp [hqp]
  · rw [if_neg hjk, h j hj q hq]
    congr 2
    apply decide_eq_decide.mpr
    constructor
    · rintro ⟨h1, h2⟩; exact ⟨by omega, h2⟩
    · rintro ⟨h1, h2⟩; exact ⟨by omega, h2⟩
theorem L_forgetIn (M0 : xMe) (s : Nat → Nat) (hs : ∀ j, j < 24 → M0.1 2 j = nI (s j) ∧ s j ≤ 64) (gone : Int32) (Q : Option Value → xMe → Prop) (k : Nat) (hk : k < 24) (hnext : ∀ f, fgI M0 s gone k (s k) f → xF l G y_Pr_forgetReferencesTo 57 [some (.ref 1), some (.int gone), some (.int (nI k)), some (.int (nI (s k)))] [] (xsL M0 8 f) Q) : ∀ (n p : Nat) (f : Nat → Int64), n + p = s k → fgI M0 s gone k p f → xF l G y_Pr_forgetReferencesTo 10 [some (.ref 1), some (.int gone), some (.int (nI k)), some (.int (nI p))] [] (xsL M0 8 f) Q := by
  have hsk := hs k hk
  intro n
  induction n with
  | zero =>
    intro p f hp hf
    refine xF_go o_Pr_forgetReferencesTo [10, 57] 60 (fun K hK => ?_)
    repeat' ((conv => whnf); first | refine ⟨fun h => ?_, fun h => ?_⟩ | refine ⟨?_, ?_⟩ | refine hK _ _ _ _ ?_)
    · exact vp_in_nI hk (by decide)
    · have e : p = s k := by omega
      subst e
      exact hnext f hf
    · rw [nI_clamp (by omega), xsL_1, hsk.1] at h
      exact absurd h (nI_nlt (by omega) (by omega))
    all_goals (rw [nI_clamp (by omega), xsL_1, hsk.1] at *; exact absurd (by assumption) (nI_nlt (a := p) (b := s k) (by omega) (by omega)))
  | succ n ih =>
    intro p f hp hf
    have hp64 : p < 64 := by omega
    refine xF_go o_Pr_forgetReferencesTo [10, 57] 60 (fun K hK => ?_)
    have hix : (nI k * 64 + nI p).toNatClampNeg = k * 64 + p := by rw [nI_16, nI_add, nI_clamp (by omega)]
    repeat' ((conv => whnf); first | refine ⟨fun h => ?_, fun h => ?_⟩ | refine ⟨?_, ?_⟩ | refine hK _ _ _ _ ?_)
    · exact vp_in_nI hk (by decide)
    · rw [nI_clamp (by omega), xsL_1, hsk.1] at h
      exact absurd (nI_lt (by omega) (by omega)) h
    · rw [nI_16, nI_add]
      exact vp_in_nI (N := 1536) (by omega) (by decide)
    · rename_i h
      rw [hix, xsL_1] at h
      rw [nI_1]
      exact ih (p + 1) f (by omega) (fgI_same hf h)
    · exact vp_in_nI hk (by decide)
    · exact vp_in_nI hk (by decide)
    · rename_i h
      rw [hix, xsL_1] at h
      rw [nI_1, nI_clamp (by omega), xsL_LL, xsL_s]
      exact ih (p + 1) _ (by omega) (fgI_set hp64 (by omega) hf h)
theorem L_forgetOut (M0 : xMe) (s : Nat → Nat) (hs : ∀ j, j < 24 → M0.1 2 j = nI (s j) ∧ s j ≤ 64) (gone : Int32) (Q : Option Value → xMe → Prop) (hnext : ∀ f, fgI M0 s gone 24 0 f → Q none (xsL M0 8 f)) : ∀ (n k : Nat) (f : Nat → Int64) (z : Option Value), n + k = 24 → fgI M0 s gone k 0 f → xF l G y_Pr_forgetReferencesTo 2 [some (.ref 1), some (.int gone), some (.int (nI k)), z] [] (xsL M0 8 f) Q := by
  intro n
  induction n with
  | zero =>
    intro k f z hk hf
    refine xF_go o_Pr_forgetReferencesTo [10, 57] 60 (fun K hK => ?_)
    repeat' ((conv => whnf); first | refine ⟨fun h => ?_, fun h => ?_⟩ | refine ⟨?_, ?_⟩ | refine hK _ _ _ _ ?_)
    · refine xF_vret o_Pr_forgetReferencesTo rfl rfl ?_
      have e : k = 24 := by omega
      subst e
      exact hnext f hf
    · exact absurd h (nI_nlt (b := 24) (by omega) (by omega))
  | succ n ih =>
    intro k f z hk hf
    refine xF_go o_Pr_forgetReferencesTo [10, 57] 60 (fun K hK => ?_)
    repeat' ((conv => whnf); first | refine ⟨fun h => ?_, fun h => ?_⟩ | refine ⟨?_, ?_⟩ | refine hK _ _ _ _ ?_)
    · exact absurd (nI_lt (b := 24) (by omega) (by omega)) h
    · refine L_forgetIn l G M0 s hs gone Q k (by omega) ?_ (s k) 0 f (by omega) hf
      intro f' hf'
      clear hK K
      refine xF_go o_Pr_forgetReferencesTo [2, 10] 60 (fun K hK => ?_)
      repeat' ((conv => whnf); first | refine ⟨fun h => ?_, fun h => ?_⟩ | refine ⟨?_, ?_⟩ | refine hK _ _ _ _ ?_)
      rw [nI_1]
      refine ih (k + 1) f' _ (by omega) ?_
      intro j hj q hq
      rw [hf' j hj q hq]
      congr 2
      apply decide_eq_decide.mpr
      constructor
      · rintro ⟨h1, h2, h3⟩
        exact ⟨by omega, h2, h3⟩
      · rintro ⟨h1, h2, h3⟩
        refine ⟨?_, h2, h3⟩
        rcases h1 with h1 | h1
        · by_cases e : j = k
          · subst e
            exact Or.inr ⟨rfl, h2⟩
          · exact Or.inl (by omega)
        · omega
theorem E_forget (M : xMe) (s : Nat → Nat) (hs : ∀ j, j < 24 → M.1 2 j = nI (s j) ∧ s j ≤ 64) (gone : Int32) : xE l G y_Pr_forgetReferencesTo [.ref 1, .int gone] M (fun r M' => r = none ∧ ∃ f, M' = xsL M 8 f ∧ ∀ j, j < 24 → ∀ q, q < 64 → xbit (f j) q = (xbit (M.2 8 j) q && !(decide (q < s j ∧ M.1 7 (j * 64 + q) = gone)))) := by
  refine xE_of [some (.ref 1), some (.int gone), none, none] (by decide +kernel) (Nat.le_of_ble_eq_true rfl) rfl ?_
  refine xF_go o_Pr_forgetReferencesTo [2] 60 (fun K hK => ?_)
  repeat' ((conv => whnf); first | refine ⟨fun h => ?_, fun h => ?_⟩ | refine ⟨?_, ?_⟩ | refine hK _ _ _ _ ?_)
  have e : M = xsL M 8 (M.2 8) := (xsL_id (fun _ => rfl)).symm
  have h0 := L_forgetOut l G M s hs gone (fun r M' => r = none ∧ ∃ f, M' = xsL M 8 f ∧ ∀ j, j < 24 → ∀ q, q < 64 → xbit (f j) q = (xbit (M.2 8 j) q && !(decide (q < s j ∧ M.1 7 (j * 64 + q) = gone)))) (fun f hf => ⟨rfl, f, rfl, fun j hj q hq => by
    rw [hf j hj q hq]
    congr 2
    apply decide_eq_decide.mpr
    exact ⟨fun h => h.2, fun h => ⟨Or.inl hj, h⟩⟩⟩) 24 0 (M.2 8) none (by omega) (fun j hj q hq => by simp)
  rw [← e] at h0
  exact h0
end XTL
end
section
/-! Program: items, bytes, references, code, input as told -/
def sItem (P : sP) (k n a g : Nat) (v : Bool) : sP := (fun j => if j = k then n else pS P j, fun j => if j = k then a else pA P j, fun j => if j = k then g else pG P j, fun j => if j = k then v else pV P j, fun j p => if j = k then 0 else pO P j p, fun j p => if j = k then none else if n = 0 ∧ pR P j p = some k then none else pR P j p, pC P, pE P, pI P)
theorem sItem_S (P : sP) (k n a g : Nat) (v : Bool) (j : Nat) : pS (sItem P k n a g v) j = if j = k then n else pS P j := rfl
theorem sItem_A (P : sP) (k n a g : Nat) (v : Bool) (j : Nat) : pA (sItem P k n a g v) j = if j = k then a else pA P j := rfl
theorem sItem_G (P : sP) (k n a g : Nat) (v : Bool) (j : Nat) : pG (sItem P k n a g v) j = if j = k then g else pG P j := rfl
theorem sItem_V (P : sP) (k n a g : Nat) (v : Bool) (j : Nat) : pV (sItem P k n a g v) j = if j = k then v else pV P j := rfl
theorem sItem_O (P : sP) (k n a g : Nat) (v : Bool) (j p : Nat) : pO (sItem P k n a g v) j p = if j = k then 0 else pO P j p := rfl
theorem sItem_R (P : sP) (k n a g : Nat) (v : Bool) (j p : Nat) : pR (sItem P k n a g v) j p = if j = k then none else if n = 0 ∧ pR P j p = some k then none else pR P j p := rfl
def sRef (P : sP) (k p : Nat) (t : Option Nat) : sP := (pS P, pA P, pG P, pV P, pO P, fun j q => if j = k ∧ q = p then t else pR P j q, pC P, pE P, pI P)
def sCode (P : sP) (f : Nat) (q : Nat × Int32 × Int32 × Int32) : sP := (pS P, pA P, pG P, pV P, pO P, pR P, fun j => if j = f then pC P j ++ [q] else pC P j, pE P, pI P)
theorem upd_s {f : Nat → Int32} {k : Nat} {x : Int32} : upd f k x k = x := by simp [upd]
theorem upd_n {f : Nat → Int32} {k j : Nat} {x : Int32} (h : j ≠ k) : upd f k x j = f j := by simp [upd, h]
theorem updL_s {f : Nat → Int64} {k : Nat} {x : Int64} : vp_updL f k x k = x := by simp [vp_updL]
theorem updL_n {f : Nat → Int64} {k j : Nat} {x : Int64} (h : j ≠ k) : vp_updL f k x j = f j := by simp [vp_updL, h]
section XTM
variable (l : Launch) (G : xG)
/-- the loop that empties an item's bytes -/
theorem L_tellItem (k : Nat) (hk : k < 24) (n a g z : Int32) (Q : Option Value → xMe → Prop) (M0 : xMe) (hnext : xF l G y_Pr_tellItem 66 [some (.ref 1), some (.int (nI k)), some (.int n), some (.int a), some (.int g), some (.int z), some (.int (nI 64))] [] (xsI M0 6 (fun i => if k * 64 ≤ i ∧ i < k * 64 + 64 then 0 else M0.1 6 i)) Q) : ∀ (m p : Nat), m + p = 64 → xF l G y_Pr_tellItem 40 [some (.ref 1), some (.int (nI k)), some (.int n), some (.int a), some (.int g), some (.int z), some (.int (nI p))] [] (xsI M0 6 (fun i => if k * 64 ≤ i ∧ i < k * 64 + p then 0 else M0.1 6 i)) Q := by
  intro m
  induction m with
  | zero =>
    intro p hp
    refine xF_go o_Pr_tellItem [40, 66] 60 (fun K hK => ?_)
    repeat' ((conv => whnf); first | refine ⟨fun h => ?_, fun h => ?_⟩ | refine ⟨?_, ?_⟩ | refine hK _ _ _ _ ?_)
    · have e : p = 64 := by omega
      subst e
      exact hnext
    · exact absurd h (nI_nlt (b := 64) (by omega) (by omega))
    · exact absurd h (nI_nlt (b := 64) (by omega) (by omega))
  | succ m ih =>
    intro p hp
    refine xF_go o_Pr_tellItem [40, 66] 60 (fun K hK => ?_)
    repeat' ((conv => whnf); first | refine ⟨fun h => ?_, fun h => ?_⟩ | refine ⟨?_, ?_⟩ | refine hK _ _ _ _ ?_)
    · exact absurd (nI_lt (b := 64) (by omega) (by omega)) h
    · rw [nI_16, nI_add]
      exact vp_in_nI (N := 1536) (by omega) (by decide)
    · rw [nI_1, nI_16, nI_add, nI_clamp (by omega), xsI_II, xsI_s]
      have e := ih (p + 1) (by omega)
      rw [xsI_c (g := upd (fun i => if k * 64 ≤ i ∧ i < k * 64 + p then 0 else M0.1 6 i) (k * 64 + p) 0)] at e
      · exact e
      · intro i
        unfold upd
        grind
theorem cP_item {P : sP} {M N : xMe} (hM : cP P M) (hw : wP P) {k n a g : Nat} {v : Bool} (hk : k < 24) (n2 : N.1 2 = upd (M.1 2) k (nI n)) (n3 : N.1 3 = upd (M.1 3) k (nI a)) (n4 : N.1 4 = upd (M.1 4) k (nI g)) (n5 : N.1 5 = upd (M.1 5) k (b2 v)) (n6 : ∀ i, N.1 6 i = if k * 64 ≤ i ∧ i < k * 64 + 64 then 0 else M.1 6 i) (n8 : ∀ j, j < 24 → ∀ q, q < 64 → xbit (N.2 8 j) q = (xbit (vp_updL (M.2 8) k 0 j) q && !(decide (n = 0 ∧ q < pS (sItem P k n a g v) j ∧ M.1 7 (j * 64 + q) = nI k)))) (nf : xfr [2, 3, 4, 5, 6, 8] M N) : cP (sItem P k n a g v) N := by
  obtain ⟨h1, h2, h3, h4, h5, h6⟩ := hM
  refine ⟨?_, ?_, ?_, ?_, ?_, ?_⟩
  · intro j hj
    rw [n2, n3, n4, n5]
    have hj1 := h1 j hj
    rw [sItem_S, sItem_A, sItem_G, sItem_V]
    unfold upd
    by_cases e : j = k
    · simp [e]
    · simp [e, hj1]
  · intro j hj p hp
    rw [n6]
    by_cases e : j = k
    · subst e
      rw [if_pos (by omega), sItem_O, if_pos rfl]
      rfl
    · rw [if_neg (by omega), sItem_O, if_neg e]
      exact h2 j hj p hp
  · intro j hj p hp
    rw [n8 j hj p hp, (nf 7 (by simp)).1]
    obtain ⟨h3a, h3b⟩ := h3 j hj p hp
    by_cases e : j = k
    · subst e
      rw [updL_s, xbit_0]
      rw [sItem_R, if_pos rfl]
      refine ⟨by simp, fun t ht => ?_⟩
      simp at ht
    · rw [updL_n e, h3a]
      have es : pS (sItem P k n a g v) j = pS P j := by rw [sItem_S, if_neg e]
      rw [es]
      have er : pR (sItem P k n a g v) j p = if n = 0 ∧ pR P j p = some k then none else pR P j p := by rw [sItem_R, if_neg e]
      rw [er]
      cases hr : pR P j p with
      | none =>
        refine ⟨by simp, fun t ht => ?_⟩
        simp at ht
      | some t =>
        have hw3 := hw.2.2.1 j hj p hp t hr
        have ht7 := h3b t hr
        rw [ht7]
        have hiff : (nI t = nI k) ↔ t = k := nI_eq (by omega) (by omega)
        by_cases e2 : n = 0 ∧ t = k
        · obtain ⟨e3, e4⟩ := e2
          subst e4
          simp [e3, hw3.2.1]
        · have e5 : ¬ (n = 0 ∧ some t = some k) := fun z => e2 ⟨z.1, Option.some.inj z.2⟩
          rw [if_neg e5]
          refine ⟨?_, fun t' ht' => ?_⟩
          · have : ¬ (n = 0 ∧ p < pS P j ∧ nI t = nI k) := fun z => e2 ⟨z.1, hiff.mp z.2.2⟩
            simp [this]
          · cases ht'
            rfl
  · intro f' hf'
    rw [(nf 9 (by simp)).1, (nf 10 (by simp)).1, (nf 11 (by simp)).1, (nf 12 (by simp)).1, (nf 13 (by simp)).1]
    exact h4 f' hf'
  · intro f' hf'
    rw [(nf 14 (by simp)).1]
    exact h5 f' hf'
  · refine ⟨?_, fun i v' hv => ?_⟩
    · rw [(nf 1 (by simp)).1]
      exact h6.1
    · rw [(nf 15 (by simp)).1]
      exact h6.2 i v' hv
theorem E_tellItem (P : sP) (M : xMe) (hM : cP P M) (hw : wP P) (k n a g : Nat) (v : Bool) (hk : k < 24) (hn : n ≤ 64) (ha : a < 9) (hg : g ≤ 3) : xE l G y_Pr_tellItem [.ref 1, .int (nI k), .int (nI n), .int (nI a), .int (nI g), .int (b2 v)] M (fun r M' => r = none ∧ cP (sItem P k n a g v) M' ∧ xfr [2, 3, 4, 5, 6, 8] M M') := by
  refine xE_of [some (.ref 1), some (.int (nI k)), some (.int (nI n)), some (.int (nI a)), some (.int (nI g)), some (.int (b2 v)), none] (by decide +kernel) (Nat.le_of_ble_eq_true rfl) rfl ?_
  refine xF_go o_Pr_tellItem [40] 60 (fun K hK => ?_)
  repeat' ((conv => whnf); first | refine ⟨fun h => ?_, fun h => ?_⟩ | refine ⟨?_, ?_⟩ | refine hK _ _ _ _ ?_)
  · exact vp_in_nI hk (by decide)
  · exact vp_in_nI hk (by decide)
  · exact vp_in_nI hk (by decide)
  · exact vp_in_nI hk (by decide)
  · exact b2_01 v
  · exact vp_in_nI hk (by decide)
  rw [nI_clamp (by omega)]
  generalize hM1 : xsL _ 8 _ = M1
  have q2 : M1.1 2 = upd (M.1 2) k (nI n) := by rw [← hM1]; rfl
  have q3 : M1.1 3 = upd (M.1 3) k (nI a) := by rw [← hM1]; rfl
  have q4 : M1.1 4 = upd (M.1 4) k (nI g) := by rw [← hM1]; rfl
  have q5 : M1.1 5 = upd (M.1 5) k (b2 v) := by rw [← hM1]; rfl
  have q6 : M1.1 6 = M.1 6 := by rw [← hM1]; rfl
  have q7 : M1.1 7 = M.1 7 := by rw [← hM1]; rfl
  have q8 : M1.2 8 = vp_updL (M.2 8) k 0 := by rw [← hM1]; rfl
  have qf : xfr [2, 3, 4, 5, 6, 8] M M1 := by
    rw [← hM1]
    exact ((((xfr.rf.I (by simp)).I (by simp)).I (by simp)).I (by simp)).L (by simp)
  clear hM1
  have hsz : ∀ j, j < 24 → M1.1 2 j = nI (pS (sItem P k n a g v) j) ∧ pS (sItem P k n a g v) j ≤ 64 := by
    intro j hj
    rw [q2]
    have h1 := hM.1 j hj
    have h2 := hw.1 j hj
    rw [sItem_S]
    unfold upd
    by_cases e : j = k
    · simp [e, hn]
    · simp [e, h1.1, h2.1]
  have e0 : M1 = xsI M1 6 (fun i => if k * 64 ≤ i ∧ i < k * 64 + 0 then 0 else M1.1 6 i) := (xsI_id (fun i => by rw [if_neg (by omega)])).symm
  rw [e0]
  refine L_tellItem l G k hk _ _ _ _ _ M1 ?_ 64 0 (by omega)
  clear hK K
  refine xF_go o_Pr_tellItem [] 60 (fun K hK => ?_)
  repeat' ((conv => whnf); first | refine ⟨fun h => ?_, fun h => ?_⟩ | refine ⟨?_, ?_⟩ | refine hK _ _ _ _ ?_)
  · refine xF_vret o_Pr_tellItem rfl rfl ?_
    have hn0 : n ≠ 0 := fun e => h (by rw [e]; rfl)
    refine ⟨rfl, cP_item hM hw hk q2 q3 q4 q5 (fun i => by rw [← q6]; rfl) (fun j hj q hq => ?_) (qf.I (by simp)), qf.I (by simp)⟩
    rw [xsI_2, q8]
    simp [hn0]
  · have hn0 : n = 0 := nI_inj (b := 0) (by omega) (by omega) h
    refine xF_callV o_Pr_tellItem [.int (nI k)] rfl z_Pr_forgetReferencesTo i_Pr_forgetReferencesTo v_Pr_forgetReferencesTo l_Pr_72 rfl ⟨⟨by decide, by decide⟩, rfl, rfl⟩ (Nat.le_of_ble_eq_true rfl) rfl rfl rfl (E_forget l G (xsI M1 6 (fun i => if k * 64 ≤ i ∧ i < k * 64 + 64 then 0 else M1.1 6 i)) (pS (sItem P k n a g v)) hsz (nI k)) ?_
    rintro v' M' ⟨rfl, f, rfl, hf⟩
    clear hK K
    refine xF_go o_Pr_tellItem [] 60 (fun K hK => ?_)
    repeat' ((conv => whnf); first | refine ⟨fun h => ?_, fun h => ?_⟩ | refine ⟨?_, ?_⟩ | refine hK _ _ _ _ ?_)
    refine xF_vret o_Pr_tellItem rfl rfl ?_
    refine ⟨rfl, cP_item hM hw hk q2 q3 q4 q5 (fun i => by rw [← q6]; rfl) (fun j hj q hq => ?_) ((qf.I (by simp)).L (by simp)), (qf.I (by simp)).L (by simp)⟩
    rw [xsL_2, if_pos rfl, hf j hj q hq, xsI_2, q8]
    have e7 : ∀ F, (xsI M1 6 F).1 7 = M.1 7 := fun F => q7
    rw [e7]
    simp [hn0]
end XTM
end
section
/-! references and code as told; the bytes of a number -/
def vbyte (v : Int64) (j : Nat) : Nat := v.toBitVec.toNat / 2 ^ (8 * (7 - j)) % 256
theorem vbyte_lt (v : Int64) (j : Nat) : vbyte v j < 256 := Nat.mod_lt _ (by decide)
theorem oct_sh : ∀ j, j < 8 → (8 * (7 - nI j) : Int32) = nI (8 * (7 - j)) := by decide +kernel
theorem oct_c (v : Int64) {j : Nat} (hj : j < 8) : ((v.toUInt64 >>> ((8 * (7 - nI j)).toInt64.toUInt64 &&& Int64.toUInt64 63)).toInt64.toInt32 &&& 255) = nI (vbyte v j) := by
  rw [oct_sh j hj, pk_and _ 8 (by decide +kernel)]
  congr 1
  unfold vbyte
  have e := xshr_bv v (p := 8 * (7 - j)) (by omega)
  generalize hx : (v.toUInt64 >>> ((nI (8 * (7 - j))).toInt64.toUInt64 &&& Int64.toUInt64 63)).toInt64 = x at e ⊢
  have e2 : x.toInt32.toBitVec.toNat % 2 ^ 8 = x.toBitVec.toNat % 256 := by
    rw [Int64.toBitVec_toInt32, BitVec.signExtend_eq_setWidth_of_le _ (by decide), BitVec.toNat_setWidth]
    omega
  rw [e2, e, BitVec.toNat_ushiftRight, Nat.shiftRight_eq_div_pow]
section XTN
variable (l : Launch) (G : xG)
theorem E_octet (v : Int64) (j : Nat) (hj : j < 8) (M : xMe) : xE l G y_DS_octetOf [.long v, .int (nI j)] M (fun r M' => M' = M ∧ r = some (.int (nI (vbyte v j)))) := by
  refine xE_post ?_ (E_octetOf l G v (nI j) M)
  rintro r M' ⟨rfl, rfl⟩
  exact ⟨rfl, by rw [oct_c v hj]⟩
theorem sRef_R (P : sP) (k p : Nat) (t : Option Nat) (j q : Nat) : pR (sRef P k p t) j q = if j = k ∧ q = p then t else pR P j q := rfl
theorem cP_ref {P : sP} {M N : xMe} (hM : cP P M) {k p : Nat} (hk : k < 24) (hp : p < 64) {t : Option Nat} (n8 : ∀ j, j < 24 → ∀ q, q < 64 → xbit (N.2 8 j) q = if j = k ∧ q = p then t.isSome else xbit (M.2 8 j) q) (n7 : ∀ j, j < 24 → ∀ q, q < 64 → ¬ (j = k ∧ q = p) → N.1 7 (j * 64 + q) = M.1 7 (j * 64 + q)) (n7' : ∀ t', t = some t' → N.1 7 (k * 64 + p) = nI t') (nf : xfr [7, 8] M N) : cP (sRef P k p t) N := by
  obtain ⟨h1, h2, h3, h4, h5, h6⟩ := hM
  refine ⟨?_, ?_, ?_, ?_, ?_, ?_⟩
  · intro j hj
    rw [(nf 2 (by simp)).1, (nf 3 (by simp)).1, (nf 4 (by simp)).1, (nf 5 (by simp)).1]
    exact h1 j hj
  · intro j hj q hq
    rw [(nf 6 (by simp)).1]
    exact h2 j hj q hq
  · intro j hj q hq
    rw [n8 j hj q hq, sRef_R]
    by_cases e : j = k ∧ q = p
    · rw [if_pos e, if_pos e]
      obtain ⟨rfl, rfl⟩ := e
      exact ⟨rfl, n7'⟩
    · rw [if_neg e, if_neg e, n7 j hj q hq e]
      exact h3 j hj q hq
  · intro f' hf'
    rw [(nf 9 (by simp)).1, (nf 10 (by simp)).1, (nf 11 (by simp)).1, (nf 12 (by simp)).1, (nf 13 (by simp)).1]
    exact h4 f' hf'
  · intro f' hf'
    rw [(nf 14 (by simp)).1]
    exact h5 f' hf'
  · refine ⟨?_, fun i v' hv => ?_⟩
    · rw [(nf 1 (by simp)).1]
      exact h6.1
    · rw [(nf 15 (by simp)).1]
      exact h6.2 i v' hv
def oI (t : Option Nat) : Int32 := match t with
  | some k => nI k
  | none => -1
theorem E_tellReference (P : sP) (M : xMe) (hM : cP P M) (k p : Nat) (t : Option Nat) (hk : k < 24) (hp : p < 64) (ht : ∀ t', t = some t' → t' < 24) : xE l G y_Pr_tellReference [.ref 1, .int (nI k), .int (nI p), .int (oI t)] M (fun r M' => r = none ∧ cP (sRef P k p t) M' ∧ xfr [7, 8] M M') := by
  have hix : (nI k * 64 + nI p).toNatClampNeg = k * 64 + p := by rw [nI_16, nI_add, nI_clamp (by omega)]
  refine xE_of [some (.ref 1), some (.int (nI k)), some (.int (nI p)), some (.int (oI t))] (by decide +kernel) (Nat.le_of_ble_eq_true rfl) rfl ?_
  refine xF_go o_Pr_tellReference [] 60 (fun K hK => ?_)
  repeat' ((conv => whnf); first | refine ⟨fun h => ?_, fun h => ?_⟩ | refine ⟨?_, ?_⟩ | refine hK _ _ _ _ ?_)
  · exact vp_in_nI hk (by decide)
  · exact vp_in_nI hk (by decide)
  · rw [nI_16, nI_add]
    exact vp_in_nI (N := 1536) (by omega) (by decide)
  · refine xF_vret o_Pr_tellReference rfl rfl ?_
    rw [hix, nI_clamp (by omega)]
    cases t with
    | none => exact absurd rfl h
    | some t' =>
      refine ⟨rfl, cP_ref hM hk hp (fun j hj q hq => ?_) (fun j hj q hq e => ?_) (fun t2 e2 => ?_) ((xfr.rf.L (by simp)).I (by simp)), (xfr.rf.L (by simp)).I (by simp)⟩
      · rw [xsI_2, xsL_2, if_pos rfl]
        by_cases e : j = k
        · subst e
          rw [updL_s, xbit_or, xbit_1 hp]
          by_cases e2 : q = p <;> simp [e2]
        · rw [updL_n e, if_neg (fun z => e z.1)]
      · rw [xsI_1, if_pos rfl, upd_n (by omega), xsL_1]
      · cases e2
        rw [xsI_1, if_pos rfl, upd_s]
        rfl
  · exact vp_in_nI hk (by decide)
  · exact vp_in_nI hk (by decide)
  · refine xF_vret o_Pr_tellReference rfl rfl ?_
    rw [nI_clamp (by omega)]
    have e0 : t = none := by
      cases t with
      | none => rfl
      | some t' =>
        have h1 := ht t' rfl
        have h2 : nI t' = -1 := h
        exact absurd (h2 ▸ nI_pos' (n := t') (by omega)) (by decide)
    subst e0
    refine ⟨rfl, cP_ref hM hk hp (fun j hj q hq => ?_) (fun j hj q hq e => rfl) (fun t2 e2 => by cases e2) (xfr.rf.L (by simp)), xfr.rf.L (by simp)⟩
    rw [xsL_2, if_pos rfl]
    by_cases e : j = k
    · subst e
      rw [updL_s, xbit_and, xbit_not _ hq, xbit_1 hp]
      by_cases e2 : q = p <;> simp [e2]
    · rw [updL_n e, if_neg (fun z => e z.1)]
theorem sCode_C (P : sP) (f : Nat) (q : Nat × Int32 × Int32 × Int32) (j : Nat) : pC (sCode P f q) j = if j = f then pC P j ++ [q] else pC P j := rfl
theorem E_addInstruction (P : sP) (M : xMe) (hM : cP P M) (hw : wP P) (f o : Nat) (a b c : Int32) (hf : f < 12) (hl : (pC P f).length < 40) : xE l G y_Pr_addInstruction [.ref 1, .int (nI f), .int (nI o), .int a, .int b, .int c] M (fun r M' => r = some (.int (nI ((pC P f).length + 1))) ∧ cP (sCode P f (o, a, b, c)) M' ∧ xfr [9, 10, 11, 12, 13] M M') := by
  obtain ⟨h1, h2, h3, h4, h5, h6⟩ := hM
  obtain ⟨hlen, hrows⟩ := h4 f hf
  have hix : (nI f * 40 + M.1 9 (nI f).toNatClampNeg) = nI (f * 40 + (pC P f).length) := by rw [nI_clamp (by omega), hlen, nI_40, nI_add]
  have hix2 : (nI f * 40 + M.1 9 (nI f).toNatClampNeg).toNatClampNeg = f * 40 + (pC P f).length := by rw [hix, nI_clamp (by omega)]
  refine xE_of [some (.ref 1), some (.int (nI f)), some (.int (nI o)), some (.int a), some (.int b), some (.int c), none] (by decide +kernel) (Nat.le_of_ble_eq_true rfl) rfl ?_
  refine xF_go o_Pr_addInstruction [] 60 (fun K hK => ?_)
  repeat' ((conv => whnf); first | refine ⟨fun h => ?_, fun h => ?_⟩ | refine ⟨?_, ?_⟩ | refine hK _ _ _ _ ?_)
  · exact vp_in_nI hf (by decide)
  · rw [hix]; exact vp_in_nI (N := 480) (by omega) (by decide)
  · rw [hix]; exact vp_in_nI (N := 480) (by omega) (by decide)
  · rw [hix]; exact vp_in_nI (N := 480) (by omega) (by decide)
  · rw [hix]; exact vp_in_nI (N := 480) (by omega) (by decide)
  · exact vp_in_nI hf (by decide)
  · exact vp_in_nI hf (by decide)
  · exact vp_in_nI hf (by decide)
  · refine xF_iret o_Pr_addInstruction rfl rfl ?_
    rw [hix2]
    generalize hN : xsI _ 9 _ = N
    have n9 : N.1 9 = upd (M.1 9) (nI f).toNatClampNeg (M.1 9 (nI f).toNatClampNeg + 1) := by rw [← hN]; rfl
    have n10 : N.1 10 = upd (M.1 10) (f * 40 + (pC P f).length) (nI o) := by rw [← hN]; rfl
    have n11 : N.1 11 = upd (M.1 11) (f * 40 + (pC P f).length) a := by rw [← hN]; rfl
    have n12 : N.1 12 = upd (M.1 12) (f * 40 + (pC P f).length) b := by rw [← hN]; rfl
    have n13 : N.1 13 = upd (M.1 13) (f * 40 + (pC P f).length) c := by rw [← hN]; rfl
    have nf : xfr [9, 10, 11, 12, 13] M N := by
      rw [← hN]
      exact ((((xfr.rf.I (by simp)).I (by simp)).I (by simp)).I (by simp)).I (by simp)
    clear hN
    rw [nI_clamp (by omega), hlen, nI_1] at n9
    refine ⟨?_, ⟨?_, ?_, ?_, ?_, ?_, ?_⟩, nf⟩
    · rw [n9, nI_clamp (by omega), upd_s]
    · intro j hj
      rw [(nf 2 (by simp)).1, (nf 3 (by simp)).1, (nf 4 (by simp)).1, (nf 5 (by simp)).1]
      exact h1 j hj
    · intro j hj q hq
      rw [(nf 6 (by simp)).1]
      exact h2 j hj q hq
    · intro j hj q hq
      rw [(nf 7 (by simp)).1, (nf 8 (by simp)).2]
      exact h3 j hj q hq
    · intro g hg
      obtain ⟨g1, g2⟩ := h4 g hg
      have hgl := (hw.2.2.2.1 g hg).1
      rw [sCode_C, n9, n10, n11, n12, n13]
      by_cases e : g = f
      · subst e
        rw [if_pos rfl, upd_s]
        refine ⟨by simp, fun i q hi => ?_⟩
        by_cases e2 : i = (pC P g).length
        · subst e2
          rw [List.getElem?_append_right (by omega)] at hi
          simp at hi
          subst hi
          simp [upd]
        · have hi2 : i < (pC P g).length := by
            have := (List.getElem?_eq_some_iff.mp hi).1
            simp at this
            omega
          rw [List.getElem?_append_left hi2] at hi
          have := g2 i q hi
          rw [upd_n (by omega), upd_n (by omega), upd_n (by omega), upd_n (by omega)]
          exact this
      · rw [if_neg e, upd_n e]
        refine ⟨g1, fun i q hi => ?_⟩
        have hi2 : i < (pC P g).length := (List.getElem?_eq_some_iff.mp hi).1
        rw [upd_n (by omega), upd_n (by omega), upd_n (by omega), upd_n (by omega)]
        exact g2 i q hi
    · intro g hg
      rw [(nf 14 (by simp)).1]
      exact h5 g hg
    · refine ⟨?_, fun i v' hv => ?_⟩
      · rw [(nf 1 (by simp)).1]
        exact h6.1
      · rw [(nf 15 (by simp)).1]
        exact h6.2 i v' hv
end XTN
end
section
/-! bytes and input as told -/
def sBytes (P : sP) (k p m : Nat) (v : Int64) : sP := (pS P, pA P, pG P, pV P, fun j q => if j = k ∧ p ≤ q ∧ q < p + m then vbyte v (q - p) else pO P j q, pR P, pC P, pE P, pI P)
def sInput (P : sP) (n : Nat) (v : Int64) : sP := (pS P, pA P, pG P, pV P, pO P, pR P, pC P, pE P, pI P ++ (List.range n).map (vbyte v))
theorem sBytes_O (P : sP) (k p m : Nat) (v : Int64) (j q : Nat) : pO (sBytes P k p m v) j q = if j = k ∧ p ≤ q ∧ q < p + m then vbyte v (q - p) else pO P j q := rfl
theorem sInput_I (P : sP) (n : Nat) (v : Int64) : pI (sInput P n v) = pI P ++ (List.range n).map (vbyte v) := rfl
section XTO
variable (l : Launch) (G : xG)
theorem L_tellOctets (k p : Nat) (hk : k < 24) (m : Nat) (hm : m ≤ 8) (hpm : p + m ≤ 64) (n : Int32) (v : Int64) (M0 : xMe) (Q : Option Value → xMe → Prop) (hnext : Q (some (.int (nI m))) (xsI M0 6 (fun i => if k * 64 + p ≤ i ∧ i < k * 64 + p + m then nI (vbyte v (i - (k * 64 + p))) else M0.1 6 i))) : ∀ (d i : Nat), d + i = m → xF l G y_Pr_tellOctets 17 [some (.ref 1), some (.int (nI k)), some (.int (nI p)), some (.int n), some (.long v), none, some (.int (nI m)), some (.int (nI i))] [] (xsI M0 6 (fun j => if k * 64 + p ≤ j ∧ j < k * 64 + p + i then nI (vbyte v (j - (k * 64 + p))) else M0.1 6 j)) Q := by
  intro d
  induction d with
  | zero =>
    intro i hi
    refine xF_go o_Pr_tellOctets [17] 60 (fun K hK => ?_)
    repeat' ((conv => whnf); first | refine ⟨fun h => ?_, fun h => ?_⟩ | refine ⟨?_, ?_⟩ | refine hK _ _ _ _ ?_)
    · refine xF_iret o_Pr_tellOctets rfl rfl ?_
      have e : i = m := by omega
      subst e
      exact hnext
    · exact absurd h (nI_nlt (by omega) (by omega))
  | succ d ih =>
    intro i hi
    refine xF_go o_Pr_tellOctets [17] 60 (fun K hK => ?_)
    repeat' ((conv => whnf); first | refine ⟨fun h => ?_, fun h => ?_⟩ | refine ⟨?_, ?_⟩ | refine hK _ _ _ _ ?_)
    · exact absurd (nI_lt (by omega) (by omega)) h
    · refine xF_callS o_Pr_tellOctets [.long v, .int (nI i)] rfl z_DS_octetOf s_DS_octetOf l_Pr_82 rfl ⟨⟨by decide, by decide⟩, rfl, rfl⟩ (Nat.le_of_ble_eq_true rfl) rfl (E_octet l G v i (by omega) _) ?_
      rintro w M' ⟨rfl, rfl⟩
      clear hK K
      refine xF_go o_Pr_tellOctets [17] 60 (fun K hK => ?_)
      repeat' ((conv => whnf); first | refine ⟨fun h => ?_, fun h => ?_⟩ | refine ⟨?_, ?_⟩ | refine hK _ _ _ _ ?_)
      · rw [nI_16, nI_add, nI_add]
        exact vp_in_nI (N := 1536) (by omega) (by decide)
      · rw [nI_1, nI_16, nI_add, nI_add, nI_clamp (by omega), xsI_II, xsI_s]
        have e := ih (i + 1) (by omega)
        rw [xsI_c (g := upd (fun j => if k * 64 + p ≤ j ∧ j < k * 64 + p + i then nI (vbyte v (j - (k * 64 + p))) else M0.1 6 j) (k * 64 + p + i) (nI (vbyte v i)))] at e
        · exact e
        · intro j
          unfold upd
          by_cases ej : j = k * 64 + p + i
          · subst ej
            rw [if_pos (by omega), if_pos rfl]
            congr 2
            omega
          · rw [if_neg ej]
            dsimp only
            by_cases e2 : k * 64 + p ≤ j ∧ j < k * 64 + p + i
            · rw [if_pos e2, if_pos (by omega)]
            · rw [if_neg e2, if_neg (by omega)]
theorem E_tellOctets (P : sP) (M : xMe) (hM : cP P M) (hw : wP P) (k p n : Nat) (v : Int64) (hk : k < 24) (hp : p < pS P k) (hn : n ≤ 8) : xE l G y_Pr_tellOctets [.ref 1, .int (nI k), .int (nI p), .int (nI n), .long v] M (fun r M' => r = some (.int (nI (min n (pS P k - p)))) ∧ cP (sBytes P k p (min n (pS P k - p)) v) M' ∧ xfr [6] M M') := by
  obtain ⟨h1, h2, h3, h4, h5, h6⟩ := hM
  have hs := (hw.1 k hk).1
  refine xE_of [some (.ref 1), some (.int (nI k)), some (.int (nI p)), some (.int (nI n)), some (.long v), none, none, none] (by decide +kernel) (Nat.le_of_ble_eq_true rfl) rfl ?_
  refine xF_go o_Pr_tellOctets [17] 60 (fun K hK => ?_)
  repeat' ((conv => whnf); first | refine ⟨fun h => ?_, fun h => ?_⟩ | refine ⟨?_, ?_⟩ | refine hK _ _ _ _ ?_)
  · exact vp_in_nI hk (by decide)
  rw [nI_clamp (by omega), (h1 k hk).1, pk_sub (by omega)]
  refine xF_callS o_Pr_tellOctets [.int (nI n), .int (nI (pS P k - p))] rfl z_JM_min s_JM_min l_Pr_76 rfl ⟨⟨by decide, by decide⟩, rfl, rfl⟩ (Nat.le_of_ble_eq_true rfl) rfl (E_min l G (nI n) (nI (pS P k - p)) M) ?_
  rintro w M' ⟨rfl, rfl⟩
  clear hK K
  have emin : (if nI n ≤ nI (pS P k - p) then nI n else nI (pS P k - p)) = nI (min n (pS P k - p)) := by
    by_cases e : n ≤ pS P k - p
    · rw [if_pos ((nI_leI (by omega) (by omega)).mpr e), Nat.min_eq_left e]
    · rw [if_neg (fun z => e ((nI_leI (by omega) (by omega)).mp z)), Nat.min_eq_right (by omega)]
  rw [emin]
  refine xF_go o_Pr_tellOctets [17] 60 (fun K hK => ?_)
  repeat' ((conv => whnf); first | refine ⟨fun h => ?_, fun h => ?_⟩ | refine ⟨?_, ?_⟩ | refine hK _ _ _ _ ?_)
  have e0 : M' = xsI M' 6 (fun j => if k * 64 + p ≤ j ∧ j < k * 64 + p + 0 then nI (vbyte v (j - (k * 64 + p))) else M'.1 6 j) := (xsI_id (fun i => by rw [if_neg (by omega)])).symm
  have key := L_tellOctets l G k p hk (min n (pS P k - p)) (by omega) (by omega) (nI n) v M' (fun r M'' => r = some (.int (nI (min n (pS P k - p)))) ∧ cP (sBytes P k p (min n (pS P k - p)) v) M'' ∧ xfr [6] M' M'') ?_ (min n (pS P k - p)) 0 (by omega)
  · rw [← e0] at key
    exact key
  · have nf : xfr [6] M' (xsI M' 6 (fun i => if k * 64 + p ≤ i ∧ i < k * 64 + p + min n (pS P k - p) then nI (vbyte v (i - (k * 64 + p))) else M'.1 6 i)) := xfr.rf.I (by simp)
    refine ⟨rfl, ⟨?_, ?_, ?_, ?_, ?_, ?_⟩, nf⟩
    · intro j hj
      exact h1 j hj
    · intro j hj q hq
      rw [xsI_1, if_pos rfl, sBytes_O]
      by_cases e : j = k ∧ p ≤ q ∧ q < p + min n (pS P k - p)
      · rw [if_pos e, if_pos (by omega)]
        congr 2
        omega
      · rw [if_neg e, if_neg (by omega)]
        exact h2 j hj q hq
    · intro j hj q hq
      exact h3 j hj q hq
    · intro g hg
      exact h4 g hg
    · intro g hg
      exact h5 g hg
    · exact h6
theorem L_addInput (L n : Nat) (hn : n ≤ 8) (hL : L + n ≤ 200) (v : Int64) (M0 : xMe) (h0 : M0.1 1 14 = nI L) (Q : Option Value → xMe → Prop) (hnext : Q (some (.int (nI (L + n)))) (xsI (xsI M0 15 (fun i => if L ≤ i ∧ i < L + n then nI (vbyte v (i - L)) else M0.1 15 i)) 1 (upd (M0.1 1) 14 (nI (L + n))))) : ∀ (d i : Nat), d + i = n → xF l G y_Pr_addInput 3 [some (.ref 1), some (.int (nI n)), some (.long v), none, some (.int (nI i))] [] (xsI M0 15 (fun j => if L ≤ j ∧ j < L + i then nI (vbyte v (j - L)) else M0.1 15 j)) Q := by
  intro d
  induction d with
  | zero =>
    intro i hi
    refine xF_go o_Pr_addInput [3] 60 (fun K hK => ?_)
    repeat' ((conv => whnf); first | refine ⟨fun h => ?_, fun h => ?_⟩ | refine ⟨?_, ?_⟩ | refine hK _ _ _ _ ?_)
    · refine xF_iret o_Pr_addInput rfl rfl ?_
      have e : i = n := by omega
      subst e
      have e1 : ∀ F, (xsI M0 15 F).1 1 = M0.1 1 := fun F => rfl
      rw [xsI_1, if_pos rfl, upd_s, e1, h0, nI_add]
      exact hnext
    · exact absurd h (nI_nlt (by omega) (by omega))
  | succ d ih =>
    intro i hi
    refine xF_go o_Pr_addInput [3] 60 (fun K hK => ?_)
    repeat' ((conv => whnf); first | refine ⟨fun h => ?_, fun h => ?_⟩ | refine ⟨?_, ?_⟩ | refine hK _ _ _ _ ?_)
    · exact absurd (nI_lt (by omega) (by omega)) h
    · refine xF_callS o_Pr_addInput [.long v, .int (nI i)] rfl z_DS_octetOf s_DS_octetOf l_Pr_82 rfl ⟨⟨by decide, by decide⟩, rfl, rfl⟩ (Nat.le_of_ble_eq_true rfl) rfl (E_octet l G v i (by omega) _) ?_
      rintro w M' ⟨rfl, rfl⟩
      clear hK K
      have e1 : ∀ F, (xsI M0 15 F).1 1 14 = nI L := fun F => h0
      rw [e1]
      refine xF_go o_Pr_addInput [3] 60 (fun K hK => ?_)
      repeat' ((conv => whnf); first | refine ⟨fun h => ?_, fun h => ?_⟩ | refine ⟨?_, ?_⟩ | refine hK _ _ _ _ ?_)
      · rw [nI_add]
        exact vp_in_nI (N := 200) (by omega) (by decide)
      · rw [nI_1, nI_add, nI_clamp (by omega), xsI_II, xsI_s]
        have e := ih (i + 1) (by omega)
        rw [xsI_c (g := upd (fun j => if L ≤ j ∧ j < L + i then nI (vbyte v (j - L)) else M0.1 15 j) (L + i) (nI (vbyte v i)))] at e
        · exact e
        · intro j
          unfold upd
          by_cases ej : j = L + i
          · subst ej
            rw [if_pos (by omega), if_pos rfl]
            congr 2
            omega
          · rw [if_neg ej]
            dsimp only
            by_cases e2 : L ≤ j ∧ j < L + i
            · rw [if_pos e2, if_pos (by omega)]
            · rw [if_neg e2, if_neg (by omega)]
theorem E_addInput (P : sP) (M : xMe) (hM : cP P M) (n : Nat) (v : Int64) (hn : n ≤ 8) (hL : (pI P).length + n ≤ 200) : xE l G y_Pr_addInput [.ref 1, .int (nI n), .long v] M (fun r M' => r = some (.int (nI ((pI P).length + n))) ∧ cP (sInput P n v) M' ∧ (∀ j, j ≠ 14 → M'.1 1 j = M.1 1 j) ∧ xfr [1, 15] M M') := by
  obtain ⟨h1, h2, h3, h4, h5, h6⟩ := hM
  refine xE_of [some (.ref 1), some (.int (nI n)), some (.long v), none, none] (by decide +kernel) (Nat.le_of_ble_eq_true rfl) rfl ?_
  refine xF_go o_Pr_addInput [3] 60 (fun K hK => ?_)
  repeat' ((conv => whnf); first | refine ⟨fun h => ?_, fun h => ?_⟩ | refine ⟨?_, ?_⟩ | refine hK _ _ _ _ ?_)
  have e0 : M = xsI M 15 (fun j => if (pI P).length ≤ j ∧ j < (pI P).length + 0 then nI (vbyte v (j - (pI P).length)) else M.1 15 j) := (xsI_id (fun i => by rw [if_neg (by omega)])).symm
  have key := L_addInput l G (pI P).length n hn hL v M h6.1 (fun r M' => r = some (.int (nI ((pI P).length + n))) ∧ cP (sInput P n v) M' ∧ (∀ j, j ≠ 14 → M'.1 1 j = M.1 1 j) ∧ xfr [1, 15] M M') ?_ n 0 (by omega)
  · rw [← e0] at key
    exact key
  · refine ⟨rfl, ⟨fun j hj => h1 j hj, fun j hj q hq => h2 j hj q hq, fun j hj q hq => h3 j hj q hq, fun g hg => h4 g hg, fun g hg => h5 g hg, ?_, ?_⟩, fun j hj => ?_, (xfr.rf.I (by simp)).I (by simp)⟩
    · rw [xsI_1, if_pos rfl, upd_s, sInput_I]
      simp
    · intro i w hi
      show (if (pI P).length ≤ i ∧ i < (pI P).length + n then nI (vbyte v (i - (pI P).length)) else M.1 15 i) = _
      rw [sInput_I] at hi
      by_cases e : i < (pI P).length
      · rw [if_neg (by omega)]
        rw [List.getElem?_append_left e] at hi
        exact h6.2 i w hi
      · have hi2 := (List.getElem?_eq_some_iff.mp hi).1
        simp at hi2
        rw [if_pos (by omega)]
        rw [List.getElem?_append_right (by omega), List.getElem?_map, List.getElem?_range (by omega)] at hi
        simp at hi
        rw [hi]
    · rw [xsI_1, if_pos rfl, upd_n hj]
end XTO
end
section
/-! the class's own calls that tell: each is tied to a relation on programs -/
def rItem (P : sP) (k n a g : Int32) (v : Bool) (P' : sP) (r : Int32) (ac : Bool) : Prop := (¬ vItem k n a g ∧ P' = P ∧ r = 0 ∧ ac = false) ∨ ∃ k' n' a' g', k' < 24 ∧ n' ≤ 64 ∧ (a' = 1 ∨ a' = 2 ∨ a' = 4 ∨ a' = 8) ∧ g' ≤ 3 ∧ k = nI k' ∧ n = nI n' ∧ a = nI a' ∧ g = nI g' ∧ P' = sItem P k' n' a' g' v ∧ r = 1 ∧ ac = true
def rBytes (P : sP) (k p n : Int32) (v : Int64) (P' : sP) (r : Int32) (ac : Bool) : Prop := (¬ ((∃ j q, j < 24 ∧ k = nI j ∧ q < pS P j ∧ p = nI q) ∧ 1 ≤ n ∧ n ≤ 8) ∧ P' = P ∧ r = -1 ∧ ac = false) ∨ ∃ k' p' n', k' < 24 ∧ p' < pS P k' ∧ 1 ≤ n' ∧ n' ≤ 8 ∧ k = nI k' ∧ p = nI p' ∧ n = nI n' ∧ P' = sBytes P k' p' (min n' (pS P k' - p')) v ∧ r = nI (min n' (pS P k' - p')) ∧ ac = true
def rRefer (P : sP) (k p t : Int32) (P' : sP) (r : Int32) (ac : Bool) : Prop := (¬ ((∃ j q, j < 24 ∧ k = nI j ∧ q < pS P j ∧ p = nI q) ∧ (t = -1 ∨ ∃ j, j < 24 ∧ t = nI j ∧ 0 < pS P j)) ∧ P' = P ∧ r = 0 ∧ ac = false) ∨ ∃ (k' p' : Nat) (t' : Option Nat), k' < 24 ∧ p' < pS P k' ∧ (∀ j, t' = some j → j < 24 ∧ 0 < pS P j) ∧ k = nI k' ∧ p = nI p' ∧ t = oI t' ∧ P' = sRef P k' p' t' ∧ r = 1 ∧ ac = true
theorem vItem_nat {k n a g : Int32} (h : vItem k n a g) : ∃ k' n' a' g', k' < 24 ∧ n' ≤ 64 ∧ (a' = 1 ∨ a' = 2 ∨ a' = 4 ∨ a' = 8) ∧ g' ≤ 3 ∧ k = nI k' ∧ n = nI n' ∧ a = nI a' ∧ g = nI g' := by
  obtain ⟨h1, h2, h3, h4⟩ := h
  obtain ⟨k', hk', rfl⟩ := nI_of24 h1
  obtain ⟨n', hn', rfl⟩ := nI_ofN (x := n) (n := 65) (by decide) h2.1 (by have : (nI 65 : Int32) = 65 := rfl; rw [this]; grind)
  obtain ⟨g', hg', rfl⟩ := nI_ofN (x := g) (n := 4) (by decide) h4.1 (by have : (nI 4 : Int32) = 4 := rfl; rw [this]; grind)
  rcases h3 with rfl | rfl | rfl | rfl
  · exact ⟨k', n', 1, g', hk', by omega, by simp, by omega, rfl, rfl, rfl, rfl⟩
  · exact ⟨k', n', 2, g', hk', by omega, by simp, by omega, rfl, rfl, rfl, rfl⟩
  · exact ⟨k', n', 4, g', hk', by omega, by simp, by omega, rfl, rfl, rfl, rfl⟩
  · exact ⟨k', n', 8, g', hk', by omega, by simp, by omega, rfl, rfl, rfl, rfl⟩
theorem wP_item {P : sP} (hw : wP P) {k n a g : Nat} {v : Bool} (hk : k < 24) (hn : n ≤ 64) (ha : a = 1 ∨ a = 2 ∨ a = 4 ∨ a = 8) (hg : g ≤ 3) : wP (sItem P k n a g v) := by
  obtain ⟨h1, h2, h3, h4, h5, h6⟩ := hw
  refine ⟨fun j hj => ?_, fun j hj p hp => ?_, fun j hj p hp t ht => ?_, h4, h5, h6⟩
  · rw [sItem_S, sItem_G, sItem_A]
    by_cases e : j = k
    · simp [e, hn, hg, ha]
    · simp only [if_neg e]
      exact h1 j hj
  · rw [sItem_O]
    by_cases e : j = k
    · simp [e]
    · rw [if_neg e]
      exact h2 j hj p hp
  · rw [sItem_R] at ht
    by_cases e : j = k
    · rw [if_pos e] at ht
      cases ht
    · rw [if_neg e] at ht
      by_cases e2 : n = 0 ∧ pR P j p = some k
      · rw [if_pos e2] at ht
        cases ht
      · rw [if_neg e2] at ht
        obtain ⟨g1, g2, g3⟩ := h3 j hj p hp t ht
        refine ⟨g1, ?_, ?_⟩
        · rw [sItem_S, if_neg e]
          exact g2
        · rw [sItem_S]
          by_cases e3 : t = k
          · rw [if_pos e3]
            have : n ≠ 0 := fun z => e2 ⟨z, by rw [ht, e3]⟩
            omega
          · rw [if_neg e3]
            exact g3
theorem wP_bytes {P : sP} (hw : wP P) {k p m : Nat} {v : Int64} : wP (sBytes P k p m v) := by
  obtain ⟨h1, h2, h3, h4, h5, h6⟩ := hw
  refine ⟨h1, fun j hj q hq => ?_, h3, h4, h5, h6⟩
  rw [sBytes_O]
  by_cases e : j = k ∧ p ≤ q ∧ q < p + m
  · rw [if_pos e]
    exact vbyte_lt _ _
  · rw [if_neg e]
    exact h2 j hj q hq
theorem wP_ref {P : sP} (hw : wP P) {k p : Nat} {t : Option Nat} (hp : p < pS P k) (ht : ∀ j, t = some j → j < 24 ∧ 0 < pS P j) : wP (sRef P k p t) := by
  obtain ⟨h1, h2, h3, h4, h5, h6⟩ := hw
  refine ⟨h1, h2, fun j hj q hq t' ht' => ?_, h4, h5, h6⟩
  rw [sRef_R] at ht'
  by_cases e : j = k ∧ q = p
  · rw [if_pos e] at ht'
    obtain ⟨rfl, rfl⟩ := e
    exact ⟨(ht t' ht').1, hp, (ht t' ht').2⟩
  · rw [if_neg e] at ht'
    exact h3 j hj q hq t' ht'
section XOP
variable (l : Launch) (G : xG)
theorem E_DSitem (P : sP) (M : xMe) (hM : cP P M) (hw : wP P) (k n a g : Int32) (v : Bool) : xE l G y_DS_item [.ref 0, .int k, .int n, .int a, .int g, .int (b2 v)] M (fun r M' => ∃ P' r0 ac, rItem P k n a g v P' r0 ac ∧ r = some (.int r0) ∧ cP P' M' ∧ wP P' ∧ (ac = false → M' = M) ∧ (ac = true → M'.1 0 = upd (M.1 0) 5 0) ∧ xfr [0, 2, 3, 4, 5, 6, 8] M M') := by
  refine xE_of [some (.ref 0), some (.int k), some (.int n), some (.int a), some (.int g), some (.int (b2 v))] (by decide +kernel) (Nat.le_of_ble_eq_true rfl) rfl ?_
  refine xF_go o_DS_item [] 60 (fun K hK => ?_)
  repeat' ((conv => whnf); first | refine ⟨fun h => ?_, fun h => ?_⟩ | refine ⟨?_, ?_⟩ | refine hK _ _ _ _ ?_)
  refine xF_callS o_DS_item [.int k, .int n, .int a, .int g] rfl z_Pr_isItem s_Pr_isItem l_DS_41 rfl ⟨⟨by decide, by decide⟩, rfl, rfl⟩ (Nat.le_of_ble_eq_true rfl) rfl (E_isItem l G k n a g M) ?_
  rintro w M1 ⟨rfl, b, rfl, hb⟩
  clear hK K
  refine xF_go o_DS_item [] 60 (fun K hK => ?_)
  repeat' ((conv => whnf); first | refine ⟨fun h => ?_, fun h => ?_⟩ | refine ⟨?_, ?_⟩ | refine hK _ _ _ _ ?_)
  · have hv : vItem k n a g := hb.mp (by cases b; exact absurd rfl h; rfl)
    obtain ⟨k', n', a', g', h1, h2, h3, h4, rfl, rfl, rfl, rfl⟩ := vItem_nat hv
    refine xF_callV o_DS_item [.int (nI k'), .int (nI n'), .int (nI a'), .int (nI g'), .int (b2 v)] rfl z_Pr_tellItem i_Pr_tellItem v_Pr_tellItem l_DS_45 rfl ⟨⟨by decide, by decide⟩, rfl, rfl⟩ (Nat.le_of_ble_eq_true rfl) rfl rfl rfl (E_tellItem l G P M1 hM hw k' n' a' g' v h1 h2 (by omega) h4) ?_
    rintro w M2 ⟨rfl, hP2, hf2⟩
    clear hK K
    refine xF_go o_DS_item [] 60 (fun K hK => ?_)
    repeat' ((conv => whnf); first | refine ⟨fun h => ?_, fun h => ?_⟩ | refine ⟨?_, ?_⟩ | refine hK _ _ _ _ ?_)
    · exact Or.inl rfl
    · refine xF_zret o_DS_item rfl rfl (Or.inr rfl) ?_
      have e0 : M2.1 0 = M1.1 0 := (hf2 0 (by simp)).1
      refine ⟨_, 1, true, Or.inr ⟨k', n', a', g', h1, h2, h3, h4, rfl, rfl, rfl, rfl, rfl, rfl, rfl⟩, rfl, ?_, wP_item hw h1 h2 h3 h4, (fun z => by cases z), fun _ => ?_, ?_⟩
      · exact hP2
      · rw [xsI_1, if_pos rfl, e0]
      · exact (hf2.mono (by simp)).I (by simp)
  · have hv : ¬ vItem k n a g := fun z => by
      have := hb.mpr z
      subst this
      exact absurd h (by decide)
    refine xF_zret o_DS_item rfl rfl (Or.inl rfl) ?_
    exact ⟨P, 0, false, Or.inl ⟨hv, rfl, rfl, rfl⟩, rfl, hM, hw, fun _ => rfl, (fun z => by cases z), xfr.rf⟩
theorem E_DSbytes (P : sP) (M : xMe) (hM : cP P M) (hw : wP P) (k p n : Int32) (v : Int64) : xE l G y_DS_bytes [.ref 0, .int k, .int p, .int n, .long v] M (fun r M' => ∃ P' r0 ac, rBytes P k p n v P' r0 ac ∧ r = some (.int r0) ∧ cP P' M' ∧ wP P' ∧ (ac = false → M' = M) ∧ (ac = true → M'.1 0 = upd (M.1 0) 5 0) ∧ xfr [0, 6] M M') := by
  refine xE_of [some (.ref 0), some (.int k), some (.int p), some (.int n), some (.long v), none] (by decide +kernel) (Nat.le_of_ble_eq_true rfl) rfl ?_
  refine xF_go o_DS_bytes [] 60 (fun K hK => ?_)
  repeat' ((conv => whnf); first | refine ⟨fun h => ?_, fun h => ?_⟩ | refine ⟨?_, ?_⟩ | refine hK _ _ _ _ ?_)
  refine xF_callV o_DS_bytes [.int k, .int p] rfl z_Pr_hasPlace i_Pr_hasPlace v_Pr_hasPlace l_DS_53 rfl ⟨⟨by decide, by decide⟩, rfl, rfl⟩ (Nat.le_of_ble_eq_true rfl) rfl rfl rfl (E_hasPlace l G P M hM.1 hw k p) ?_
  rintro w M1 ⟨rfl, b, rfl, hb⟩
  clear hK K
  refine xF_go o_DS_bytes [] 60 (fun K hK => ?_)
  repeat' ((conv => whnf); first | refine ⟨fun h => ?_, fun h => ?_⟩ | refine ⟨?_, ?_⟩ | refine hK _ _ _ _ ?_)
  · refine xF_iret o_DS_bytes rfl rfl ?_
    have hb0 : b = false := b2_0.mp h
    refine ⟨P, -1, false, Or.inl ⟨fun z => ?_, rfl, rfl, rfl⟩, rfl, hM, hw, fun _ => rfl, (fun z => by cases z), xfr.rf⟩
    have := hb.mpr z.1
    rw [hb0] at this
    cases this
  · have hb1 : b = true := by
      cases b
      · exact absurd rfl h
      · rfl
    obtain ⟨k', p', h1, rfl, h2, rfl⟩ := hb.mp hb1
    refine xF_callS o_DS_bytes [.int n, .int 1, .int 8] rfl z_DS_within s_DS_within l_DS_57 rfl ⟨⟨by decide, by decide⟩, rfl, rfl⟩ (Nat.le_of_ble_eq_true rfl) rfl (E_within l G n 1 8 M1) ?_
    rintro w M ⟨rfl, rfl⟩
    clear hK K
    refine xF_go o_DS_bytes [] 60 (fun K hK => ?_)
    repeat' ((conv => whnf); first | refine ⟨fun h => ?_, fun h => ?_⟩ | refine ⟨?_, ?_⟩ | refine hK _ _ _ _ ?_)
    · exact Or.inl rfl
    · have hn : 1 ≤ n ∧ n ≤ 8 := by grind
      obtain ⟨n', hn', rfl⟩ := nI_ofN (x := n) (n := 9) (by decide) (by grind) (by have : (nI 9 : Int32) = 9 := rfl; rw [this]; grind)
      have hn1 : 1 ≤ n' := by
        rcases Nat.eq_zero_or_pos n' with q | q
        · rw [q] at hn; exact absurd hn.1 (by decide)
        · exact q
      have hP0 : cP P (xsI M 0 (upd (M.1 0) 5 0)) := hM
      refine xF_callV o_DS_bytes [.int (nI k'), .int (nI p'), .int (nI n'), .long v] rfl z_Pr_tellOctets i_Pr_tellOctets v_Pr_tellOctets l_DS_61 rfl ⟨⟨by decide, by decide⟩, rfl, rfl⟩ (Nat.le_of_ble_eq_true rfl) rfl rfl rfl (E_tellOctets l G P _ hP0 hw k' p' n' v h1 h2 (by omega)) ?_
      rintro w M2 ⟨rfl, hP2, hf2⟩
      clear hK K
      refine xF_go o_DS_bytes [] 60 (fun K hK => ?_)
      repeat' ((conv => whnf); first | refine ⟨fun h => ?_, fun h => ?_⟩ | refine ⟨?_, ?_⟩ | refine hK _ _ _ _ ?_)
      refine xF_iret o_DS_bytes rfl rfl ?_
      refine ⟨_, _, true, Or.inr ⟨k', p', n', h1, h2, hn1, by omega, rfl, rfl, rfl, rfl, rfl, rfl⟩, rfl, hP2, wP_bytes hw, (fun z => by cases z), fun _ => ?_, ?_⟩
      · rw [(hf2 0 (by simp)).1, xsI_1, if_pos rfl]
      · exact (xfr.rf.I (by simp)).tr hf2 (by simp)
    · refine xF_iret o_DS_bytes rfl rfl ?_
      refine ⟨P, -1, false, Or.inl ⟨fun z => ?_, rfl, rfl, rfl⟩, rfl, hM, hw, fun _ => rfl, (fun z => by cases z), xfr.rf⟩
      grind
end XOP
end
section
/-! the class's own calls that tell, on -/
def sClear (P : sP) (f : Nat) : sP := (pS P, pA P, pG P, pV P, pO P, pR P, fun j => if j = f then [] else pC P j, pE P, pI P)
def sEntry (P : sP) (f : Nat) (v : Bool) : sP := (pS P, pA P, pG P, pV P, pO P, pR P, pC P, fun j => if j = f then v else pE P j, pI P)
def sNoIn (P : sP) : sP := (pS P, pA P, pG P, pV P, pO P, pR P, pC P, pE P, [])
theorem sNoIn_I (P : sP) : pI (sNoIn P) = [] := rfl
theorem sClear_C (P : sP) (f j : Nat) : pC (sClear P f) j = if j = f then [] else pC P j := rfl
theorem sEntry_E (P : sP) (f : Nat) (v : Bool) (j : Nat) : pE (sEntry P f v) j = if j = f then v else pE P j := rfl
def rCode (P : sP) (f o a b c : Int32) (P' : sP) (r : Int32) (ac : Bool) : Prop := (¬ ((∃ j, j < 12 ∧ f = nI j ∧ (pC P j).length < 40) ∧ vIns o a b c) ∧ P' = P ∧ r = -1 ∧ ac = false) ∨ ∃ (f' o' : Nat), f' < 12 ∧ (pC P f').length < 40 ∧ f = nI f' ∧ o = nI o' ∧ vN (o', a, b, c) ∧ P' = sCode P f' (o', a, b, c) ∧ r = nI ((pC P f').length + 1) ∧ ac = true
def rClear (P : sP) (f : Int32) (P' : sP) (r : Int32) (ac : Bool) : Prop := (¬ (∃ j, j < 12 ∧ f = nI j) ∧ P' = P ∧ r = -1 ∧ ac = false) ∨ ∃ f', f' < 12 ∧ f = nI f' ∧ P' = sClear P f' ∧ r = nI (pC P f').length ∧ ac = true
def rEntry (P : sP) (f : Int32) (v : Bool) (P' : sP) (r : Int32) (ac : Bool) : Prop := (¬ (∃ j, j < 12 ∧ f = nI j ∧ pE P j ≠ v) ∧ P' = P ∧ r = 0 ∧ ac = false) ∨ ∃ f', f' < 12 ∧ f = nI f' ∧ pE P f' ≠ v ∧ P' = sEntry P f' v ∧ r = 1 ∧ ac = true
def rInput (P : sP) (n : Int32) (v : Int64) (P' : sP) (r : Int32) : Prop := (¬ (∃ n', 1 ≤ n' ∧ n' ≤ 8 ∧ n = nI n' ∧ (pI P).length + n' ≤ 200) ∧ P' = P ∧ r = -1) ∨ ∃ n', 1 ≤ n' ∧ n' ≤ 8 ∧ n = nI n' ∧ (pI P).length + n' ≤ 200 ∧ P' = sInput P n' v ∧ r = nI ((pI P).length + n')
theorem vIns_nat {o a b c : Int32} (h : vIns o a b c) : ∃ o', o' < 12 ∧ o = nI o' ∧ vN (o', a, b, c) := by
  unfold vIns at h
  rcases h with ⟨rfl, h⟩ | ⟨rfl, h⟩ | ⟨rfl, h⟩ | ⟨rfl, h⟩ | ⟨rfl, h⟩ | ⟨rfl, h⟩ | ⟨rfl, h⟩ | ⟨rfl, h⟩ | ⟨rfl, h⟩ | ⟨rfl, h⟩ | ⟨rfl, h⟩ | ⟨rfl, h⟩
  · exact ⟨0, by decide, rfl, h⟩
  · exact ⟨1, by decide, rfl, h⟩
  · exact ⟨2, by decide, rfl, h⟩
  · exact ⟨3, by decide, rfl, h⟩
  · exact ⟨4, by decide, rfl, h⟩
  · exact ⟨5, by decide, rfl, h⟩
  · exact ⟨6, by decide, rfl, h⟩
  · exact ⟨7, by decide, rfl, h⟩
  · exact ⟨8, by decide, rfl, h⟩
  · exact ⟨9, by decide, rfl, h⟩
  · exact ⟨10, by decide, rfl, h⟩
  · exact ⟨11, by decide, rfl, h⟩
theorem wP_code {P : sP} (hw : wP P) {f : Nat} {q : Nat × Int32 × Int32 × Int32} (hl : (pC P f).length < 40) (hq : vN q) : wP (sCode P f q) := by
  obtain ⟨h1, h2, h3, h4, h5, h6⟩ := hw
  refine ⟨h1, h2, h3, fun g hg => ?_, h5, h6⟩
  rw [sCode_C]
  by_cases e : g = f
  · subst e
    rw [if_pos rfl]
    refine ⟨by simp; omega, fun q' hq' => ?_⟩
    rcases List.mem_append.mp hq' with z | z
    · exact (h4 g hg).2 q' z
    · rw [List.mem_singleton.mp z]
      exact hq
  · rw [if_neg e]
    exact h4 g hg
theorem wP_clear {P : sP} (hw : wP P) {f : Nat} : wP (sClear P f) := by
  obtain ⟨h1, h2, h3, h4, h5, h6⟩ := hw
  refine ⟨h1, h2, h3, fun g hg => ?_, h5, h6⟩
  rw [sClear_C]
  by_cases e : g = f
  · rw [if_pos e]
    exact ⟨by simp, fun q hq => by cases hq⟩
  · rw [if_neg e]
    exact h4 g hg
theorem wP_input {P : sP} (hw : wP P) {n : Nat} {v : Int64} (h : (pI P).length + n ≤ 200) : wP (sInput P n v) := by
  obtain ⟨h1, h2, h3, h4, h5, h6⟩ := hw
  refine ⟨h1, h2, h3, h4, ?_, fun x hx => ?_⟩
  · rw [sInput_I]
    simp
    exact h
  · rw [sInput_I] at hx
    rcases List.mem_append.mp hx with z | z
    · exact h6 x z
    · obtain ⟨i, -, rfl⟩ := List.mem_map.mp z
      exact vbyte_lt _ _
theorem nI_of12 {x : Int32} (h : 0 ≤ x ∧ x < 12) : ∃ k, k < 12 ∧ x = nI k := nI_ofN (n := 12) (by decide) h.1 h.2
theorem nI_12 {j : Nat} (h : j < 12) : 0 ≤ nI j ∧ nI j < 12 := ⟨nI_pos' (by omega), nI_lt (b := 12) h (by decide)⟩
section XOQ
variable (l : Launch) (G : xG)
theorem E_DSclear (P : sP) (M : xMe) (hM : cP P M) (hw : wP P) (f : Int32) : xE l G y_DS_clear [.ref 0, .int f] M (fun r M' => ∃ P' r0 ac, rClear P f P' r0 ac ∧ r = some (.int r0) ∧ cP P' M' ∧ wP P' ∧ (ac = false → M' = M) ∧ (ac = true → M'.1 0 = upd (M.1 0) 5 0) ∧ xfr [0, 9] M M') := by
  obtain ⟨h1, h2, h3, h4, h5, h6⟩ := id hM
  refine xE_of [some (.ref 0), some (.int f), none] (by decide +kernel) (Nat.le_of_ble_eq_true rfl) rfl ?_
  refine xF_go o_DS_clear [] 60 (fun K hK => ?_)
  repeat' ((conv => whnf); first | refine ⟨fun h => ?_, fun h => ?_⟩ | refine ⟨?_, ?_⟩ | refine hK _ _ _ _ ?_)
  refine xF_callS o_DS_clear [.int f] rfl z_DS_isFunction s_DS_isFunction l_DS_73 rfl ⟨⟨by decide, by decide⟩, rfl, rfl⟩ (Nat.le_of_ble_eq_true rfl) rfl (E_isFunction l G f M) ?_
  rintro w M1 ⟨rfl, rfl⟩
  clear hK K
  by_cases hf : 0 ≤ f ∧ f < 12
  · rw [if_pos hf]
    obtain ⟨f', hf', rfl⟩ := nI_of12 hf
    refine xF_go o_DS_clear [] 60 (fun K hK => ?_)
    repeat' ((conv => whnf); first | refine ⟨fun h => ?_, fun h => ?_⟩ | refine ⟨?_, ?_⟩ | refine hK _ _ _ _ ?_)
    · exact vp_in_nI hf' (by decide)
    · exact vp_in_nI hf' (by decide)
    · exact Or.inl rfl
    · refine xF_iret o_DS_clear rfl rfl ?_
      rw [nI_clamp (by omega)]
      refine ⟨_, _, true, Or.inr ⟨f', hf', rfl, rfl, rfl, rfl⟩, by rw [(h4 f' hf').1], ⟨fun j hj => h1 j hj, fun j hj q hq => h2 j hj q hq, fun j hj q hq => h3 j hj q hq, fun g hg => ?_, fun g hg => h5 g hg, h6⟩, wP_clear hw, (fun z => by cases z), fun _ => rfl, (xfr.rf.I (by simp)).I (by simp)⟩
      have e9 : ∀ F, (xsI (xsI M1 9 (upd (M1.1 9) f' 0)) 0 F).1 9 = upd (M1.1 9) f' 0 := fun F => rfl
      rw [e9, sClear_C]
      by_cases e : g = f'
      · subst e
        rw [upd_s, if_pos rfl]
        exact ⟨rfl, fun i q hi => by simp at hi⟩
      · rw [upd_n e, if_neg e]
        exact h4 g hg
    · exact absurd h (by decide)
  · rw [if_neg hf]
    refine xF_go o_DS_clear [] 60 (fun K hK => ?_)
    repeat' ((conv => whnf); first | refine ⟨fun h => ?_, fun h => ?_⟩ | refine ⟨?_, ?_⟩ | refine hK _ _ _ _ ?_)
    · exact absurd rfl h
    · exact absurd rfl h
    · exact absurd rfl h
    · exact absurd rfl h
    · refine xF_iret o_DS_clear rfl rfl ?_
      exact ⟨P, -1, false, Or.inl ⟨fun ⟨j, hj, e⟩ => hf (e ▸ nI_12 hj), rfl, rfl, rfl⟩, rfl, hM, hw, fun _ => rfl, (fun z => by cases z), xfr.rf⟩
theorem E_DSinput2 (P : sP) (M : xMe) (hM : cP P M) (hw : wP P) : xE l G y_DS_input2 [.ref 0] M (fun r M' => r = some (.int (nI (pI P).length)) ∧ cP (sNoIn P) M' ∧ wP (sNoIn P) ∧ xfr [1] M M') := by
  obtain ⟨h1, h2, h3, h4, h5, h6⟩ := id hM
  refine xE_of [some (.ref 0), none] (by decide +kernel) (Nat.le_of_ble_eq_true rfl) rfl ?_
  refine xF_go o_DS_input2 [] 60 (fun K hK => ?_)
  repeat' ((conv => whnf); first | refine ⟨fun h => ?_, fun h => ?_⟩ | refine ⟨?_, ?_⟩ | refine hK _ _ _ _ ?_)
  refine xF_iret o_DS_input2 rfl rfl ?_
  obtain ⟨w1, w2, w3, w4, w5, w6⟩ := hw
  exact ⟨by rw [h6.1], ⟨fun j hj => h1 j hj, fun j hj q hq => h2 j hj q hq, fun j hj q hq => h3 j hj q hq, fun g hg => h4 g hg, fun g hg => h5 g hg, rfl, fun i v hv => by rw [sNoIn_I] at hv; simp at hv⟩, ⟨w1, w2, w3, w4, by rw [sNoIn_I]; simp, fun v hv => by rw [sNoIn_I] at hv; simp at hv⟩, xfr.rf.I (by simp)⟩
theorem E_DSentry (P : sP) (M : xMe) (hM : cP P M) (hw : wP P) (f : Int32) (v : Bool) : xE l G y_DS_entry [.ref 0, .int f, .int (b2 v)] M (fun r M' => ∃ P' r0 ac, rEntry P f v P' r0 ac ∧ r = some (.int r0) ∧ cP P' M' ∧ wP P' ∧ (ac = false → M' = M) ∧ (ac = true → M'.1 0 = upd (M.1 0) 5 0) ∧ xfr [0, 14] M M') := by
  obtain ⟨h1, h2, h3, h4, h5, h6⟩ := id hM
  refine xE_of [some (.ref 0), some (.int f), some (.int (b2 v))] (by decide +kernel) (Nat.le_of_ble_eq_true rfl) rfl ?_
  refine xF_go o_DS_entry [] 60 (fun K hK => ?_)
  repeat' ((conv => whnf); first | refine ⟨fun h => ?_, fun h => ?_⟩ | refine ⟨?_, ?_⟩ | refine hK _ _ _ _ ?_)
  refine xF_callS o_DS_entry [.int f] rfl z_DS_isFunction s_DS_isFunction l_DS_73 rfl ⟨⟨by decide, by decide⟩, rfl, rfl⟩ (Nat.le_of_ble_eq_true rfl) rfl (E_isFunction l G f M) ?_
  rintro w M1 ⟨rfl, rfl⟩
  clear hK K
  by_cases hf : 0 ≤ f ∧ f < 12
  · rw [if_pos hf]
    obtain ⟨f', hf', rfl⟩ := nI_of12 hf
    have hcl : (nI f').toNatClampNeg = f' := nI_clamp (by omega)
    refine xF_go o_DS_entry [] 60 (fun K hK => ?_)
    repeat' ((conv => whnf); first | refine ⟨fun h => ?_, fun h => ?_⟩ | refine ⟨?_, ?_⟩ | refine hK _ _ _ _ ?_)
    · exact absurd h (by decide)
    · exact vp_in_nI hf' (by decide)
    · exact vp_in_nI hf' (by decide)
    · exact b2_01 v
    · exact Or.inl rfl
    · rw [hcl, h5 f' hf'] at h
      have hne : pE P f' ≠ v := fun e => h (by rw [e])
      refine xF_zret o_DS_entry rfl rfl (Or.inr rfl) ?_
      rw [hcl]
      refine ⟨_, 1, true, Or.inr ⟨f', hf', rfl, hne, rfl, rfl, rfl⟩, rfl, ⟨fun j hj => h1 j hj, fun j hj q hq => h2 j hj q hq, fun j hj q hq => h3 j hj q hq, fun g hg => h4 g hg, fun g hg => ?_, h6⟩, hw, (fun z => by cases z), fun _ => rfl, (xfr.rf.I (by simp)).I (by simp)⟩
      have e14 : ∀ F, (xsI (xsI M1 14 (upd (M1.1 14) f' (b2 v))) 0 F).1 14 = upd (M1.1 14) f' (b2 v) := fun F => rfl
      rw [e14, sEntry_E]
      by_cases e : g = f'
      · subst e
        rw [upd_s, if_pos rfl]
      · rw [upd_n e, if_neg e]
        exact h5 g hg
    · rw [hcl, h5 f' hf'] at h
      have he : pE P f' = v := by
        revert h
        cases pE P f' <;> cases v <;> decide
      refine xF_zret o_DS_entry rfl rfl (Or.inl rfl) ?_
      refine ⟨P, 0, false, Or.inl ⟨fun ⟨j, hj, e, hne⟩ => ?_, rfl, rfl, rfl⟩, rfl, hM, hw, fun _ => rfl, (fun z => by cases z), xfr.rf⟩
      have := nI_inj (by omega) (by omega) e
      subst this
      exact hne he
  · rw [if_neg hf]
    refine xF_go o_DS_entry [] 60 (fun K hK => ?_)
    repeat' ((conv => whnf); first | refine ⟨fun h => ?_, fun h => ?_⟩ | refine ⟨?_, ?_⟩ | refine hK _ _ _ _ ?_)
    · refine xF_zret o_DS_entry rfl rfl (Or.inl rfl) ?_
      exact ⟨P, 0, false, Or.inl ⟨fun ⟨j, hj, e, _⟩ => hf (e ▸ nI_12 hj), rfl, rfl, rfl⟩, rfl, hM, hw, fun _ => rfl, (fun z => by cases z), xfr.rf⟩
    all_goals exact absurd rfl (show ¬ (0 : Int32) = 0 from by assumption)
theorem E_DSinput1 (P : sP) (M : xMe) (hM : cP P M) (hw : wP P) (n : Int32) (v : Int64) : xE l G y_DS_input1 [.ref 0, .int n, .long v] M (fun r M' => ∃ P' r0, rInput P n v P' r0 ∧ r = some (.int r0) ∧ cP P' M' ∧ wP P' ∧ xfr [1, 15] M M') := by
  obtain ⟨h1, h2, h3, h4, h5, h6⟩ := id hM
  have hl := hw.2.2.2.2.1
  refine xE_of [some (.ref 0), some (.int n), some (.long v), none] (by decide +kernel) (Nat.le_of_ble_eq_true rfl) rfl ?_
  refine xF_go o_DS_input1 [] 60 (fun K hK => ?_)
  repeat' ((conv => whnf); first | refine ⟨fun h => ?_, fun h => ?_⟩ | refine ⟨?_, ?_⟩ | refine hK _ _ _ _ ?_)
  refine xF_callS o_DS_input1 [.int n, .int 1, .int 8] rfl z_DS_within s_DS_within l_DS_57 rfl ⟨⟨by decide, by decide⟩, rfl, rfl⟩ (Nat.le_of_ble_eq_true rfl) rfl (E_within l G n 1 8 M) ?_
  rintro w M1 ⟨rfl, rfl⟩
  clear hK K
  have hfail : ∀ n : Int32, ¬ (1 ≤ n ∧ n ≤ 8) → ¬ ∃ n', 1 ≤ n' ∧ n' ≤ 8 ∧ n = nI n' ∧ (pI P).length + n' ≤ 200 := by
    rintro n hn ⟨n', g1, g2, rfl, -⟩
    exact hn ⟨nI_le (a := 1) g1 (by omega), nI_le (b := 8) g2 (by omega)⟩
  by_cases hn : 1 ≤ n ∧ n ≤ 8
  · rw [if_pos hn]
    obtain ⟨n', hn', rfl⟩ := nI_ofN (x := n) (n := 9) (by decide) (by grind) (by have : (nI 9 : Int32) = 9 := rfl; rw [this]; grind)
    have hn1 : 1 ≤ n' := by
      rcases Nat.eq_zero_or_pos n' with q | q
      · rw [q] at hn; exact absurd hn.1 (by decide)
      · exact q
    refine xF_go o_DS_input1 [] 60 (fun K hK => ?_)
    repeat' ((conv => whnf); first | refine ⟨fun h => ?_, fun h => ?_⟩ | refine ⟨?_, ?_⟩ | refine hK _ _ _ _ ?_)
    · exact absurd h (by decide)
    · rw [h6.1, nI_add] at h
      have hle : (pI P).length + n' ≤ 200 := by
        have h7 : ¬ nI 200 < nI ((pI P).length + n') := h
        rw [nI_ltI (by omega) (by omega)] at h7
        omega
      refine xF_callV o_DS_input1 [.int (nI n'), .long v] rfl z_Pr_addInput i_Pr_addInput v_Pr_addInput l_DS_95 rfl ⟨⟨by decide, by decide⟩, rfl, rfl⟩ (Nat.le_of_ble_eq_true rfl) rfl rfl rfl (E_addInput l G P M1 hM n' v (by omega) hle) ?_
      rintro w M2 ⟨rfl, hP2, -, hf2⟩
      clear hK K
      refine xF_go o_DS_input1 [] 60 (fun K hK => ?_)
      repeat' ((conv => whnf); first | refine ⟨fun h => ?_, fun h => ?_⟩ | refine ⟨?_, ?_⟩ | refine hK _ _ _ _ ?_)
      refine xF_iret o_DS_input1 rfl rfl ?_
      exact ⟨_, _, Or.inr ⟨n', hn1, by omega, rfl, hle, rfl, rfl⟩, rfl, hP2, wP_input hw hle, hf2⟩
    · rw [h6.1, nI_add] at h
      have hgt : 200 < (pI P).length + n' := by
        have h7 : nI 200 < nI ((pI P).length + n') := h
        rw [nI_ltI (by omega) (by omega)] at h7
        exact h7
      refine xF_iret o_DS_input1 rfl rfl ?_
      refine ⟨P, -1, Or.inl ⟨?_, rfl, rfl⟩, rfl, hM, hw, xfr.rf⟩
      rintro ⟨m, g1, g2, e, g3⟩
      have := nI_inj (by omega) (by omega) e
      omega
  · rw [if_neg hn]
    refine xF_go o_DS_input1 [] 60 (fun K hK => ?_)
    repeat' ((conv => whnf); first | refine ⟨fun h => ?_, fun h => ?_⟩ | refine ⟨?_, ?_⟩ | refine hK _ _ _ _ ?_)
    · refine xF_iret o_DS_input1 rfl rfl ?_
      exact ⟨P, -1, Or.inl ⟨hfail n hn, rfl, rfl⟩, rfl, hM, hw, xfr.rf⟩
    all_goals exact absurd rfl (by assumption)
theorem E_DSrefer (P : sP) (M : xMe) (hM : cP P M) (hw : wP P) (k p t : Int32) : xE l G y_DS_refer [.ref 0, .int k, .int p, .int t] M (fun r M' => ∃ P' r0 ac, rRefer P k p t P' r0 ac ∧ r = some (.int r0) ∧ cP P' M' ∧ wP P' ∧ (ac = false → M' = M) ∧ (ac = true → M'.1 0 = upd (M.1 0) 5 0) ∧ xfr [0, 7, 8] M M') := by
  -- from the place where all is allowed
  have fin : ∀ (M : xMe), cP P M → ∀ (k' p' : Nat) (t' : Option Nat), k' < 24 → p' < pS P k' → (∀ j, t' = some j → j < 24 ∧ 0 < pS P j) → xF l G y_DS_refer 30 [some (.ref 0), some (.int (nI k')), some (.int (nI p')), some (.int (oI t'))] [] M (fun r M' => ∃ P' r0 ac, rRefer P (nI k') (nI p') (oI t') P' r0 ac ∧ r = some (.int r0) ∧ cP P' M' ∧ wP P' ∧ (ac = false → M' = M) ∧ (ac = true → M'.1 0 = upd (M.1 0) 5 0) ∧ xfr [0, 7, 8] M M') := by
    intro M hM k' p' t' g1 g2 g3
    have hs := (hw.1 k' g1).1
    refine xF_go o_DS_refer [] 60 (fun K hK => ?_)
    repeat' ((conv => whnf); first | refine ⟨fun h => ?_, fun h => ?_⟩ | refine ⟨?_, ?_⟩ | refine hK _ _ _ _ ?_)
    refine xF_callV o_DS_refer [.int (nI k'), .int (nI p'), .int (oI t')] rfl z_Pr_tellReference i_Pr_tellReference v_Pr_tellReference l_DS_69 rfl ⟨⟨by decide, by decide⟩, rfl, rfl⟩ (Nat.le_of_ble_eq_true rfl) rfl rfl rfl (E_tellReference l G P M hM k' p' t' g1 (by omega) (fun j hj => (g3 j hj).1)) ?_
    rintro w M2 ⟨rfl, hP2, hf2⟩
    clear hK K
    refine xF_go o_DS_refer [] 60 (fun K hK => ?_)
    repeat' ((conv => whnf); first | refine ⟨fun h => ?_, fun h => ?_⟩ | refine ⟨?_, ?_⟩ | refine hK _ _ _ _ ?_)
    · exact Or.inl rfl
    · refine xF_zret o_DS_refer rfl rfl (Or.inr rfl) ?_
      refine ⟨_, 1, true, Or.inr ⟨k', p', t', g1, g2, g3, rfl, rfl, rfl, rfl, rfl, rfl⟩, rfl, hP2, wP_ref hw g2 g3, (fun z => by cases z), fun _ => ?_, (hf2.mono (by simp)).I (by simp)⟩
      rw [xsI_1, if_pos rfl, (hf2 0 (by simp)).1]
  refine xE_of [some (.ref 0), some (.int k), some (.int p), some (.int t)] (by decide +kernel) (Nat.le_of_ble_eq_true rfl) rfl ?_
  refine xF_go o_DS_refer [] 60 (fun K hK => ?_)
  repeat' ((conv => whnf); first | refine ⟨fun h => ?_, fun h => ?_⟩ | refine ⟨?_, ?_⟩ | refine hK _ _ _ _ ?_)
  refine xF_callV o_DS_refer [.int k, .int p] rfl z_Pr_hasPlace i_Pr_hasPlace v_Pr_hasPlace l_DS_53 rfl ⟨⟨by decide, by decide⟩, rfl, rfl⟩ (Nat.le_of_ble_eq_true rfl) rfl rfl rfl (E_hasPlace l G P M hM.1 hw k p) ?_
  rintro w M1 ⟨rfl, b, rfl, hb⟩
  clear hK K
  cases b with
  | false =>
    refine xF_go o_DS_refer [30] 60 (fun K hK => ?_)
    repeat' ((conv => whnf); first | refine ⟨fun h => ?_, fun h => ?_⟩ | refine ⟨?_, ?_⟩ | refine hK _ _ _ _ ?_)
    · refine xF_zret o_DS_refer rfl rfl (Or.inl rfl) ?_
      exact ⟨P, 0, false, Or.inl ⟨(fun z => by cases hb.mpr z.1), rfl, rfl, rfl⟩, rfl, hM, hw, fun _ => rfl, (fun z => by cases z), xfr.rf⟩
    all_goals exact absurd rfl (show ¬ (b2 false) = 0 from by assumption)
  | true =>
    obtain ⟨k', p', g1, rfl, g2, rfl⟩ := hb.mp rfl
    refine xF_go o_DS_refer [30] 60 (fun K hK => ?_)
    repeat' ((conv => whnf); first | refine ⟨fun h => ?_, fun h => ?_⟩ | refine ⟨?_, ?_⟩ | refine hK _ _ _ _ ?_)
    · exact absurd h (by decide)
    · have e : t = -1 := h
      subst e
      exact fin M1 hM k' p' none g1 g2 (fun j hj => by cases hj)
    · refine xF_callV o_DS_refer [.int t] rfl z_Pr_hasItem i_Pr_hasItem v_Pr_hasItem l_DS_65 rfl ⟨⟨by decide, by decide⟩, rfl, rfl⟩ (Nat.le_of_ble_eq_true rfl) rfl rfl rfl (E_hasItem l G P M1 hM.1 hw t) ?_
      rintro w M ⟨rfl, b, rfl, hb2⟩
      clear hK K
      cases b with
      | true =>
        obtain ⟨j, hj, rfl, hs⟩ := hb2.mp rfl
        refine xF_go o_DS_refer [30] 60 (fun K hK => ?_)
        repeat' ((conv => whnf); first | refine ⟨fun h => ?_, fun h => ?_⟩ | refine ⟨?_, ?_⟩ | refine hK _ _ _ _ ?_)
        · exact fin M hM k' p' (some j) g1 g2 (fun i hi => by cases hi; exact ⟨hj, hs⟩)
        · exact absurd (show b2 true = 0 from by assumption) (by decide)
      | false =>
        refine xF_go o_DS_refer [30] 60 (fun K hK => ?_)
        repeat' ((conv => whnf); first | refine ⟨fun h => ?_, fun h => ?_⟩ | refine ⟨?_, ?_⟩ | refine hK _ _ _ _ ?_)
        · exact absurd rfl (show ¬ (b2 false) = 0 from by assumption)
        · refine xF_zret o_DS_refer rfl rfl (Or.inl rfl) ?_
          refine ⟨P, 0, false, Or.inl ⟨?_, rfl, rfl, rfl⟩, rfl, hM, hw, fun _ => rfl, (fun z => by cases z), xfr.rf⟩
          rintro ⟨-, e | e⟩
          · exact absurd e (by assumption)
          · cases hb2.mpr e
theorem E_DScode (P : sP) (M : xMe) (hM : cP P M) (hw : wP P) (f o a b c : Int32) : xE l G y_DS_code [.ref 0, .int f, .int o, .int a, .int b, .int c] M (fun r M' => ∃ P' r0 ac, rCode P f o a b c P' r0 ac ∧ r = some (.int r0) ∧ cP P' M' ∧ wP P' ∧ (ac = false → M' = M) ∧ (ac = true → M'.1 0 = upd (M.1 0) 5 0) ∧ xfr [0, 9, 10, 11, 12, 13] M M') := by
  refine xE_of [some (.ref 0), some (.int f), some (.int o), some (.int a), some (.int b), some (.int c)] (by decide +kernel) (Nat.le_of_ble_eq_true rfl) rfl ?_
  refine xF_go o_DS_code [] 60 (fun K hK => ?_)
  repeat' ((conv => whnf); first | refine ⟨fun h => ?_, fun h => ?_⟩ | refine ⟨?_, ?_⟩ | refine hK _ _ _ _ ?_)
  refine xF_callS o_DS_code [.int f] rfl z_DS_isFunction s_DS_isFunction l_DS_73 rfl ⟨⟨by decide, by decide⟩, rfl, rfl⟩ (Nat.le_of_ble_eq_true rfl) rfl (E_isFunction l G f M) ?_
  rintro w M1 ⟨rfl, rfl⟩
  clear hK K
  by_cases hf : 0 ≤ f ∧ f < 12
  · rw [if_pos hf]
    obtain ⟨f', hf', rfl⟩ := nI_of12 hf
    have hcl : (nI f').toNatClampNeg = f' := nI_clamp (by omega)
    have hlen := (hM.2.2.2.1 f' hf').1
    have hl40 := (hw.2.2.2.1 f' hf').1
    refine xF_go o_DS_code [] 60 (fun K hK => ?_)
    repeat' ((conv => whnf); first | refine ⟨fun h => ?_, fun h => ?_⟩ | refine ⟨?_, ?_⟩ | refine hK _ _ _ _ ?_)
    · exact absurd h (by decide)
    · refine xF_callS o_DS_code [.int o, .int a, .int b, .int c] rfl z_Pr_isInstruction s_Pr_isInstruction l_DS_76 rfl ⟨⟨by decide, by decide⟩, rfl, rfl⟩ (Nat.le_of_ble_eq_true rfl) rfl (E_isInstruction l G o a b c M1) ?_
      rintro w M ⟨rfl, z, rfl, hz⟩
      clear hK K
      cases z with
      | false =>
        refine xF_go o_DS_code [] 60 (fun K hK => ?_)
        repeat' ((conv => whnf); first | refine ⟨fun h => ?_, fun h => ?_⟩ | refine ⟨?_, ?_⟩ | refine hK _ _ _ _ ?_)
        · exact absurd rfl (show ¬ (b2 false) = 0 from by assumption)
        · exact absurd rfl (show ¬ (b2 false) = 0 from by assumption)
        · exact absurd rfl (show ¬ (b2 false) = 0 from by assumption)
        · exact absurd rfl (show ¬ (b2 false) = 0 from by assumption)
        · refine xF_iret o_DS_code rfl rfl ?_
          exact ⟨P, -1, false, Or.inl ⟨(fun z => by cases hz.mpr z.2), rfl, rfl, rfl⟩, rfl, hM, hw, fun _ => rfl, (fun z => by cases z), xfr.rf⟩
      | true =>
        obtain ⟨o', ho', rfl, hvn⟩ := vIns_nat (hz.mp rfl)
        refine xF_go o_DS_code [] 60 (fun K hK => ?_)
        repeat' ((conv => whnf); first | refine ⟨fun h => ?_, fun h => ?_⟩ | refine ⟨?_, ?_⟩ | refine hK _ _ _ _ ?_)
        · exact vp_in_nI hf' (by decide)
        · exact Or.inl rfl
        · have h40 : (pC P f').length < 40 := by
            have h7 : M.1 9 (nI f').toNatClampNeg < nI 40 := by assumption
            rw [hcl, hlen, nI_ltI (by omega) (by omega)] at h7
            exact h7
          have hP0 : cP P (xsI M 0 (upd (M.1 0) 5 0)) := hM
          refine xF_callV o_DS_code [.int (nI f'), .int (nI o'), .int a, .int b, .int c] rfl z_Pr_addInstruction i_Pr_addInstruction v_Pr_addInstruction l_DS_83 rfl ⟨⟨by decide, by decide⟩, rfl, rfl⟩ (Nat.le_of_ble_eq_true rfl) rfl rfl rfl (E_addInstruction l G P _ hP0 hw f' o' a b c hf' h40) ?_
          rintro w M2 ⟨rfl, hP2, hf2⟩
          clear hK K
          refine xF_go o_DS_code [] 60 (fun K hK => ?_)
          repeat' ((conv => whnf); first | refine ⟨fun h => ?_, fun h => ?_⟩ | refine ⟨?_, ?_⟩ | refine hK _ _ _ _ ?_)
          refine xF_iret o_DS_code rfl rfl ?_
          refine ⟨_, _, true, Or.inr ⟨f', o', hf', h40, rfl, rfl, hvn, rfl, rfl, rfl⟩, rfl, hP2, wP_code hw h40 hvn, (fun z => by cases z), fun _ => ?_, ?_⟩
          · rw [(hf2 0 (by simp)).1, xsI_1, if_pos rfl]
          · exact (xfr.rf.I (by simp)).tr hf2 (by simp)
        · refine xF_iret o_DS_code rfl rfl ?_
          refine ⟨P, -1, false, Or.inl ⟨?_, rfl, rfl, rfl⟩, rfl, hM, hw, fun _ => rfl, (fun z => by cases z), xfr.rf⟩
          rintro ⟨⟨j, hj, e, h8⟩, -⟩
          have := nI_inj (by omega) (by omega) e
          subst this
          have h7 : ¬ M.1 9 (nI f').toNatClampNeg < nI 40 := by assumption
          rw [hcl, hlen, nI_ltI (by omega) (by omega)] at h7
          exact h7 h8
        · exact absurd (show b2 true = 0 from by assumption) (by decide)
  · rw [if_neg hf]
    refine xF_go o_DS_code [] 60 (fun K hK => ?_)
    repeat' ((conv => whnf); first | refine ⟨fun h => ?_, fun h => ?_⟩ | refine ⟨?_, ?_⟩ | refine hK _ _ _ _ ?_)
    · refine xF_iret o_DS_code rfl rfl ?_
      exact ⟨P, -1, false, Or.inl ⟨fun ⟨⟨j, hj, e, _⟩, _⟩ => hf (e ▸ nI_12 hj), rfl, rfl, rfl⟩, rfl, hM, hw, fun _ => rfl, (fun z => by cases z), xfr.rf⟩
    all_goals exact absurd rfl (show ¬ (0 : Int32) = 0 from by assumption)
end XOQ
end
section
/-! the reference's memory of a program: cells 50 to 63 -/
def mS (P : sP) (M : xMe) : Prop := ∀ k, k < 24 → M.1 51 k = nI (pS P k) ∧ M.1 52 k = nI (pA P k) ∧ M.1 53 k = nI (pG P k) ∧ M.1 56 k = b2 (pV P k)
def mO (P : sP) (M : xMe) : Prop := ∀ k, k < 24 → ∀ p, p < 64 → M.1 54 (k * 64 + p) = nI (pO P k p)
def mR (P : sP) (M : xMe) : Prop := ∀ k, k < 24 → ∀ p, p < 64 → M.1 55 (k * 64 + p) = oI (pR P k p)
def mC (P : sP) (M : xMe) : Prop := ∀ f, f < 12 → M.1 57 f = nI (pC P f).length ∧ ∀ i q, (pC P f)[i]? = some q → M.1 58 (f * 41 + i) = nI q.1 ∧ M.1 59 (f * 41 + i) = q.2.1 ∧ M.1 60 (f * 41 + i) = q.2.2.1 ∧ M.1 61 (f * 41 + i) = q.2.2.2
def mE (P : sP) (M : xMe) : Prop := ∀ f, f < 12 → M.1 62 f = b2 (pE P f)
def mI (P : sP) (M : xMe) : Prop := M.1 50 14 = nI (pI P).length ∧ ∀ i v, (pI P)[i]? = some v → M.1 63 i = nI v
def mP (P : sP) (M : xMe) : Prop := mS P M ∧ mO P M ∧ mR P M ∧ mC P M ∧ mE P M ∧ mI P M
section XMO
variable (l : Launch) (G : xG)
theorem E_has (P : sP) (M : xMe) (hM : mS P M) (hw : wP P) (k p : Int32) : xE l G y_Mo_has [.ref 50, .int k, .int p] M (fun r M' => M' = M ∧ ∃ b, r = some (.int (b2 b)) ∧ (b = true ↔ ∃ j q, j < 24 ∧ k = nI j ∧ q < pS P j ∧ p = nI q)) := by
  refine xE_of [some (.ref 50), some (.int k), some (.int p)] (by decide +kernel) (Nat.le_of_ble_eq_true rfl) rfl ?_
  refine xF_go o_Mo_has [] 50 (fun K hK => ?_)
  repeat' ((conv => whnf); first | refine ⟨fun h => ?_, fun h => ?_⟩ | refine ⟨?_, ?_⟩ | refine hK _ _ _ _ ?_)
  refine xF_callS o_Mo_has [.int k, .int 0, .int 23] rfl z_Mo_in s_Mo_in l_Mo_157 rfl ⟨⟨by decide, by decide⟩, rfl, rfl⟩ (Nat.le_of_ble_eq_true rfl) rfl (E_in l G k 0 23 M) ?_
  rintro v M' ⟨rfl, rfl⟩
  clear hK K
  by_cases hk : 0 ≤ k ∧ k ≤ 23
  · rw [if_pos hk]
    obtain ⟨j, hj, rfl⟩ := nI_of24 (x := k) (by grind)
    have hs := (hw.1 j hj).1
    refine xF_go o_Mo_has [] 50 (fun K hK => ?_)
    repeat' ((conv => whnf); first | refine ⟨fun h => ?_, fun h => ?_⟩ | refine ⟨?_, ?_⟩ | refine hK _ _ _ _ ?_)
    · exact absurd h (by decide)
    · exact vp_in_nI hj (by decide)
    · rw [nI_clamp (by omega), (hM j hj).1]
      refine xF_callS o_Mo_has [.int p, .int 0, .int _] rfl z_Mo_in s_Mo_in l_Mo_157 rfl ⟨⟨by decide, by decide⟩, rfl, rfl⟩ (Nat.le_of_ble_eq_true rfl) rfl (E_in l G p 0 _ M') ?_
      rintro v M ⟨rfl, rfl⟩
      clear hK K
      refine xF_go o_Mo_has [] 50 (fun K hK => ?_)
      repeat' ((conv => whnf); first | refine ⟨fun h => ?_, fun h => ?_⟩ | refine ⟨?_, ?_⟩ | refine hK _ _ _ _ ?_)
      · rename_i h
        rw [if10] at h
        refine xF_zret o_Mo_has rfl rfl (Or.inl rfl) ?_
        refine ⟨rfl, false, rfl, ?_⟩
        simp
        intro i hi e q hq e2
        have := nI_inj (by omega) (by omega) e
        subst this
        subst e2
        refine h ⟨nI_pos' (by omega), ?_⟩
        rw [show (nI (pS P j) - 1 : Int32) = nI (pS P j - 1) from pk_sub (b := 1) (by omega)]
        exact nI_le (by omega) (by omega)
      · rename_i h
        rw [if10, Classical.not_not] at h
        refine xF_zret o_Mo_has rfl rfl (Or.inr rfl) ?_
        refine ⟨rfl, true, rfl, ?_⟩
        simp
        rcases Nat.eq_zero_or_pos (pS P j) with h0 | h0
        · rw [h0] at h
          have : (nI 0 - 1 : Int32) = -1 := by decide
          rw [this] at h
          grind
        · rw [show (nI (pS P j) - 1 : Int32) = nI (pS P j - 1) from pk_sub (b := 1) (by omega)] at h
          obtain ⟨q, hq, e⟩ := nI_ofN (x := p) (n := pS P j) (by omega) h.1 (by
            have h3 : nI (pS P j - 1) < nI (pS P j) := nI_lt (by omega) (by omega)
            grind)
          exact ⟨j, hj, rfl, q, hq, e⟩
  · rw [if_neg hk]
    refine xF_go o_Mo_has [] 50 (fun K hK => ?_)
    repeat' ((conv => whnf); first | refine ⟨fun h => ?_, fun h => ?_⟩ | refine ⟨?_, ?_⟩ | refine hK _ _ _ _ ?_)
    · refine xF_zret o_Mo_has rfl rfl (Or.inl rfl) ?_
      refine ⟨rfl, false, rfl, ?_⟩
      simp
      intro j hj e
      have := nI_24 hj
      rw [← e] at this
      exact absurd ⟨this.1, by grind⟩ hk
    all_goals exact absurd rfl (show ¬ (0 : Int32) = 0 from by assumption)
theorem E_Mclear (P P' : sP) (M : xMe) (hM : mP P M) (f r0 : Int32) (ac : Bool) (hr : rClear P f P' r0 ac) : xE l G y_Mo_clear [.ref 50, .int f] M (fun r M' => r = some (.int r0) ∧ mP P' M' ∧ (ac = false → M' = M) ∧ (ac = true → M'.1 50 = upd (M.1 50) 26 0) ∧ xfr [50, 57] M M') := by
  obtain ⟨h1, h2, h3, h4, h5, h6⟩ := id hM
  refine xE_of [some (.ref 50), some (.int f), none] (by decide +kernel) (Nat.le_of_ble_eq_true rfl) rfl ?_
  refine xF_go o_Mo_clear [] 60 (fun K hK => ?_)
  repeat' ((conv => whnf); first | refine ⟨fun h => ?_, fun h => ?_⟩ | refine ⟨?_, ?_⟩ | refine hK _ _ _ _ ?_)
  refine xF_callS o_Mo_clear [.int f, .int 0, .int 11] rfl z_Mo_in s_Mo_in l_Mo_157 rfl ⟨⟨by decide, by decide⟩, rfl, rfl⟩ (Nat.le_of_ble_eq_true rfl) rfl (E_in l G f 0 11 M) ?_
  rintro w M1 ⟨rfl, rfl⟩
  clear hK K
  rcases hr with ⟨hn, rfl, rfl, rfl⟩ | ⟨f', hf', rfl, rfl, rfl, rfl⟩
  · rw [if_neg (fun z => hn (nI_of12 (by grind)))]
    refine xF_go o_Mo_clear [] 60 (fun K hK => ?_)
    repeat' ((conv => whnf); first | refine ⟨fun h => ?_, fun h => ?_⟩ | refine ⟨?_, ?_⟩ | refine hK _ _ _ _ ?_)
    · exact absurd rfl h
    · exact absurd rfl h
    · exact absurd rfl h
    · exact absurd rfl h
    · refine xF_iret o_Mo_clear rfl rfl ?_
      exact ⟨rfl, hM, fun _ => rfl, (fun z => by cases z), xfr.rf⟩
  · have g := nI_12 hf'
    rw [if_pos (by grind)]
    refine xF_go o_Mo_clear [] 60 (fun K hK => ?_)
    repeat' ((conv => whnf); first | refine ⟨fun h => ?_, fun h => ?_⟩ | refine ⟨?_, ?_⟩ | refine hK _ _ _ _ ?_)
    · exact vp_in_nI hf' (by decide)
    · exact vp_in_nI hf' (by decide)
    · exact Or.inl rfl
    · refine xF_iret o_Mo_clear rfl rfl ?_
      rw [nI_clamp (by omega)]
      refine ⟨by rw [(h4 f' hf').1], ⟨fun j hj => h1 j hj, fun j hj q hq => h2 j hj q hq, fun j hj q hq => h3 j hj q hq, fun g hg => ?_, fun g hg => h5 g hg, h6⟩, (fun z => by cases z), fun _ => rfl, (xfr.rf.I (by simp)).I (by simp)⟩
      have e9 : ∀ F, (xsI (xsI M1 57 (upd (M1.1 57) f' 0)) 50 F).1 57 = upd (M1.1 57) f' 0 := fun F => rfl
      rw [e9, sClear_C]
      by_cases e : g = f'
      · subst e
        rw [upd_s, if_pos rfl]
        exact ⟨rfl, fun i q hi => by simp at hi⟩
      · rw [upd_n e, if_neg e]
        exact h4 g hg
    · exact absurd h (by decide)
theorem E_Minput2 (P : sP) (M : xMe) (hM : mP P M) : xE l G y_Mo_input2 [.ref 50] M (fun r M' => r = some (.int (nI (pI P).length)) ∧ mP (sNoIn P) M' ∧ (∀ j, j ≠ 14 → M'.1 50 j = M.1 50 j) ∧ xfr [50] M M') := by
  obtain ⟨h1, h2, h3, h4, h5, h6⟩ := id hM
  refine xE_of [some (.ref 50), none] (by decide +kernel) (Nat.le_of_ble_eq_true rfl) rfl ?_
  refine xF_go o_Mo_input2 [] 60 (fun K hK => ?_)
  repeat' ((conv => whnf); first | refine ⟨fun h => ?_, fun h => ?_⟩ | refine ⟨?_, ?_⟩ | refine hK _ _ _ _ ?_)
  refine xF_iret o_Mo_input2 rfl rfl ?_
  refine ⟨by rw [h6.1], ⟨fun j hj => h1 j hj, fun j hj q hq => h2 j hj q hq, fun j hj q hq => h3 j hj q hq, fun g hg => h4 g hg, fun g hg => h5 g hg, rfl, fun i v hv => by rw [sNoIn_I] at hv; simp at hv⟩, fun j hj => ?_, xfr.rf.I (by simp)⟩
  rw [xsI_1, if_pos rfl, upd_n hj]
end XMO
end
section
/-! the reference's calls that tell -/
theorem octm_sh : ∀ j, j < 8 → (56 - 8 * nI j : Int32) = nI (8 * (7 - j)) := by decide +kernel
theorem xsar_all : ∀ p, p < 64 → (((nI p).toInt64 &&& 63).toBitVec.smod 64#64).toNat = p := by decide +kernel
theorem oct_m (v : Int64) {j : Nat} (hj : j < 8) : ((v >>> ((56 - 8 * nI j).toInt64 &&& 63)) &&& 255).toInt32 = nI (vbyte v j) := by
  rw [octm_sh j hj]
  have hs : 8 * (7 - j) ≤ 56 := by omega
  unfold vbyte
  generalize 8 * (7 - j) = s at hs ⊢
  have e1 : (v >>> ((nI s).toInt64 &&& 63)).toBitVec = v.toBitVec.sshiftRight s := by
    rw [Int64.toBitVec_shiftRight]
    show v.toBitVec.sshiftRight (((nI s).toInt64 &&& 63).toBitVec.smod 64#64).toNat = _
    rw [xsar_all s (by omega)]
  have e2 : ((v >>> ((nI s).toInt64 &&& 63)) &&& 255).toBitVec = (v.toBitVec >>> s) &&& 255#64 := by
    rw [Int64.toBitVec_and, e1]
    apply BitVec.eq_of_getLsbD_eq
    intro i hi
    have e3 : (255 : Int64).toBitVec = 255#64 := rfl
    rw [e3, BitVec.getLsbD_and, BitVec.getLsbD_and, BitVec.getLsbD_ushiftRight, BitVec.getLsbD_sshiftRight]
    by_cases h8 : i < 8
    · simp [show ¬ 64 ≤ i by omega, show s + i < 64 by omega]
    · have e4 : (255#64).getLsbD i = false := by
        have : ∀ i, i < 64 → ¬ i < 8 → (255#64).getLsbD i = false := by decide +kernel
        exact this i hi h8
      rw [e4]
      simp
  generalize hy : ((v >>> ((nI s).toInt64 &&& 63)) &&& 255) = y at e2 ⊢
  have e5 : y.toBitVec.toNat = v.toBitVec.toNat / 2 ^ s % 256 := by
    rw [e2, BitVec.toNat_and, BitVec.toNat_ushiftRight, Nat.shiftRight_eq_div_pow]
    have := Nat.and_two_pow_sub_one_eq_mod (v.toBitVec.toNat / 2 ^ s) 8
    simpa using this
  apply Int32.toBitVec_inj.mp
  apply BitVec.eq_of_toNat_eq
  rw [Int64.toBitVec_toInt32, BitVec.signExtend_eq_setWidth_of_le _ (by decide), BitVec.toNat_setWidth, e5]
  rw [pk_tn (by have := Nat.mod_lt (v.toBitVec.toNat / 2 ^ s) (show 256 > 0 by decide); omega)]
  have := Nat.mod_lt (v.toBitVec.toNat / 2 ^ s) (show 256 > 0 by decide)
  omega
theorem nI_64 (n : Nat) : 64 * nI n = nI (64 * n) := pk_mul 64 n
theorem nI_41' (n : Nat) : 41 * nI n = nI (41 * n) := pk_mul 41 n
theorem oI_m1 {t : Option Nat} (h : ∀ j, t = some j → j < 24) : oI t = -1 ↔ t = none := by
  cases t with
  | none => exact ⟨fun _ => rfl, fun _ => rfl⟩
  | some j =>
    refine ⟨fun e => ?_, fun e => by cases e⟩
    have h1 := h j rfl
    have h2 : nI j = -1 := e
    exact absurd (h2 ▸ nI_pos' (n := j) (by omega)) (by decide)
section XMQ
variable (l : Launch) (G : xG)
theorem E_Mentry (P P' : sP) (M : xMe) (hM : mP P M) (f r0 : Int32) (v ac : Bool) (hr : rEntry P f v P' r0 ac) : xE l G y_Mo_entry [.ref 50, .int f, .int (b2 v)] M (fun r M' => r = some (.int r0) ∧ mP P' M' ∧ (ac = false → M' = M) ∧ (ac = true → M'.1 50 = upd (M.1 50) 26 0) ∧ xfr [50, 62] M M') := by
  obtain ⟨h1, h2, h3, h4, h5, h6⟩ := id hM
  refine xE_of [some (.ref 50), some (.int f), some (.int (b2 v))] (by decide +kernel) (Nat.le_of_ble_eq_true rfl) rfl ?_
  refine xF_go o_Mo_entry [] 60 (fun K hK => ?_)
  repeat' ((conv => whnf); first | refine ⟨fun h => ?_, fun h => ?_⟩ | refine ⟨?_, ?_⟩ | refine hK _ _ _ _ ?_)
  refine xF_callS o_Mo_entry [.int f, .int 0, .int 11] rfl z_Mo_in s_Mo_in l_Mo_157 rfl ⟨⟨by decide, by decide⟩, rfl, rfl⟩ (Nat.le_of_ble_eq_true rfl) rfl (E_in l G f 0 11 M) ?_
  rintro w M1 ⟨rfl, rfl⟩
  clear hK K
  by_cases hf : 0 ≤ f ∧ f ≤ 11
  · rw [if_pos hf]
    obtain ⟨f', hf', rfl⟩ := nI_of12 (x := f) (by grind)
    have hcl : (nI f').toNatClampNeg = f' := nI_clamp (by omega)
    refine xF_go o_Mo_entry [] 60 (fun K hK => ?_)
    repeat' ((conv => whnf); first | refine ⟨fun h => ?_, fun h => ?_⟩ | refine ⟨?_, ?_⟩ | refine hK _ _ _ _ ?_)
    · exact absurd h (by decide)
    · exact vp_in_nI hf' (by decide)
    · exact vp_in_nI hf' (by decide)
    · exact b2_01 v
    · exact Or.inl rfl
    · rw [hcl, h5 f' hf'] at h
      have hne : pE P f' ≠ v := fun e => h (by rw [e])
      rcases hr with ⟨hn, -⟩ | ⟨f2, hf2, e, -, rfl, rfl, rfl⟩
      · exact absurd ⟨f', hf', rfl, hne⟩ hn
      · have := nI_inj (by omega) (by omega) e
        subst this
        refine xF_zret o_Mo_entry rfl rfl (Or.inr rfl) ?_
        rw [hcl]
        refine ⟨rfl, ⟨fun j hj => h1 j hj, fun j hj q hq => h2 j hj q hq, fun j hj q hq => h3 j hj q hq, fun g hg => h4 g hg, fun g hg => ?_, h6⟩, (fun z => by cases z), fun _ => rfl, (xfr.rf.I (by simp)).I (by simp)⟩
        have e14 : ∀ F, (xsI (xsI M1 62 (upd (M1.1 62) f' (b2 v))) 50 F).1 62 = upd (M1.1 62) f' (b2 v) := fun F => rfl
        rw [e14, sEntry_E]
        by_cases e : g = f'
        · subst e
          rw [upd_s, if_pos rfl]
        · rw [upd_n e, if_neg e]
          exact h5 g hg
    · rw [hcl, h5 f' hf'] at h
      have he : pE P f' = v := by
        revert h
        cases pE P f' <;> cases v <;> decide
      rcases hr with ⟨hn, rfl, rfl, rfl⟩ | ⟨f2, hf2, e, hne, -⟩
      · refine xF_zret o_Mo_entry rfl rfl (Or.inl rfl) ?_
        exact ⟨rfl, hM, fun _ => rfl, (fun z => by cases z), xfr.rf⟩
      · have := nI_inj (by omega) (by omega) e
        subst this
        exact absurd he hne
  · rw [if_neg hf]
    rcases hr with ⟨hn, rfl, rfl, rfl⟩ | ⟨f2, hf2, rfl, -⟩
    · refine xF_go o_Mo_entry [] 60 (fun K hK => ?_)
      repeat' ((conv => whnf); first | refine ⟨fun h => ?_, fun h => ?_⟩ | refine ⟨?_, ?_⟩ | refine hK _ _ _ _ ?_)
      · refine xF_zret o_Mo_entry rfl rfl (Or.inl rfl) ?_
        exact ⟨rfl, hM, fun _ => rfl, (fun z => by cases z), xfr.rf⟩
      all_goals exact absurd rfl (show ¬ (0 : Int32) = 0 from by assumption)
    · have := nI_12 hf2
      exact absurd ⟨this.1, by grind⟩ hf
theorem E_Mrefer (P P' : sP) (M : xMe) (hM : mP P M) (hw : wP P) (k p t r0 : Int32) (ac : Bool) (hr : rRefer P k p t P' r0 ac) : xE l G y_Mo_refer [.ref 50, .int k, .int p, .int t] M (fun r M' => r = some (.int r0) ∧ mP P' M' ∧ (ac = false → M' = M) ∧ (ac = true → M'.1 50 = upd (M.1 50) 26 0) ∧ xfr [50, 55] M M') := by
  obtain ⟨h1, h2, h3, h4, h5, h6⟩ := id hM
  have fin : ∀ (M : xMe), mP P M → ∀ (k' p' : Nat) (t' : Option Nat), k' < 24 → p' < pS P k' → (∀ j, t' = some j → j < 24 ∧ 0 < pS P j) → xF l G y_Mo_refer 25 [some (.ref 50), some (.int (nI k')), some (.int (nI p')), some (.int (oI t'))] [] M (fun r M' => r = some (.int 1) ∧ mP (sRef P k' p' t') M' ∧ (M'.1 50 = upd (M.1 50) 26 0) ∧ xfr [50, 55] M M') := by
    intro M hM k' p' t' g1 g2 g3
    obtain ⟨h1, h2, h3, h4, h5, h6⟩ := id hM
    have hs := (hw.1 k' g1).1
    refine xF_go o_Mo_refer [] 60 (fun K hK => ?_)
    repeat' ((conv => whnf); first | refine ⟨fun h => ?_, fun h => ?_⟩ | refine ⟨?_, ?_⟩ | refine hK _ _ _ _ ?_)
    · rw [nI_64, nI_add]
      exact vp_in_nI (N := 1536) (by omega) (by decide)
    · exact Or.inl rfl
    · refine xF_zret o_Mo_refer rfl rfl (Or.inr rfl) ?_
      rw [nI_64, nI_add, nI_clamp (by omega)]
      refine ⟨rfl, ⟨fun j hj => h1 j hj, fun j hj q hq => h2 j hj q hq, fun j hj q hq => ?_, fun g hg => h4 g hg, fun g hg => h5 g hg, h6⟩, rfl, (xfr.rf.I (by simp)).I (by simp)⟩
      have e55 : ∀ F, (xsI (xsI M 55 (upd (M.1 55) (64 * k' + p') (oI t'))) 50 F).1 55 = upd (M.1 55) (64 * k' + p') (oI t') := fun F => rfl
      rw [e55, sRef_R]
      by_cases e : j = k' ∧ q = p'
      · rw [if_pos e]
        obtain ⟨rfl, rfl⟩ := e
        rw [show j * 64 + q = 64 * j + q by omega, upd_s]
      · rw [if_neg e, upd_n (by omega)]
        exact h3 j hj q hq
  refine xE_of [some (.ref 50), some (.int k), some (.int p), some (.int t)] (by decide +kernel) (Nat.le_of_ble_eq_true rfl) rfl ?_
  refine xF_go o_Mo_refer [] 60 (fun K hK => ?_)
  repeat' ((conv => whnf); first | refine ⟨fun h => ?_, fun h => ?_⟩ | refine ⟨?_, ?_⟩ | refine hK _ _ _ _ ?_)
  refine xF_callV o_Mo_refer [.int k, .int p] rfl z_Mo_has i_Mo_has v_Mo_has l_Mo_165 rfl ⟨⟨by decide, by decide⟩, rfl, rfl⟩ (Nat.le_of_ble_eq_true rfl) rfl rfl rfl (E_has l G P M hM.1 hw k p) ?_
  rintro w M1 ⟨rfl, b, rfl, hb⟩
  clear hK K
  rcases hr with ⟨hn, rfl, rfl, rfl⟩ | ⟨k', p', t', g1, g2, g3, rfl, rfl, rfl, rfl, rfl, rfl⟩
  · cases b with
    | false =>
      refine xF_go o_Mo_refer [25] 60 (fun K hK => ?_)
      repeat' ((conv => whnf); first | refine ⟨fun h => ?_, fun h => ?_⟩ | refine ⟨?_, ?_⟩ | refine hK _ _ _ _ ?_)
      · refine xF_zret o_Mo_refer rfl rfl (Or.inl rfl) ?_
        exact ⟨rfl, hM, fun _ => rfl, (fun z => by cases z), xfr.rf⟩
      all_goals exact absurd rfl (show ¬ (b2 false) = 0 from by assumption)
    | true =>
      refine xF_go o_Mo_refer [25] 60 (fun K hK => ?_)
      repeat' ((conv => whnf); first | refine ⟨fun h => ?_, fun h => ?_⟩ | refine ⟨?_, ?_⟩ | refine hK _ _ _ _ ?_)
      · exact absurd h (by decide)
      · exact absurd ⟨hb.mp rfl, Or.inl h⟩ hn
      · refine xF_callV o_Mo_refer [.int t, .int 0] rfl z_Mo_has i_Mo_has v_Mo_has l_Mo_165 rfl ⟨⟨by decide, by decide⟩, rfl, rfl⟩ (Nat.le_of_ble_eq_true rfl) rfl rfl rfl (E_has l G P' M1 hM.1 hw t 0) ?_
        rintro w M ⟨rfl, b, rfl, hb2⟩
        clear hK K
        cases b with
        | true =>
          obtain ⟨j, q, g1, e1, g2, e2⟩ := hb2.mp rfl
          exact absurd ⟨hb.mp rfl, Or.inr ⟨j, g1, e1, by omega⟩⟩ hn
        | false =>
          refine xF_go o_Mo_refer [25] 60 (fun K hK => ?_)
          repeat' ((conv => whnf); first | refine ⟨fun h => ?_, fun h => ?_⟩ | refine ⟨?_, ?_⟩ | refine hK _ _ _ _ ?_)
          · exact absurd rfl (show ¬ (b2 false) = 0 from by assumption)
          · refine xF_zret o_Mo_refer rfl rfl (Or.inl rfl) ?_
            exact ⟨rfl, hM, fun _ => rfl, (fun z => by cases z), xfr.rf⟩
  · have hb1 : b = true := hb.mpr ⟨k', p', g1, rfl, g2, rfl⟩
    subst hb1
    refine xF_go o_Mo_refer [25] 60 (fun K hK => ?_)
    repeat' ((conv => whnf); first | refine ⟨fun h => ?_, fun h => ?_⟩ | refine ⟨?_, ?_⟩ | refine hK _ _ _ _ ?_)
    · exact absurd h (by decide)
    · refine xF_post ?_ (fin M1 hM k' p' t' g1 g2 g3)
      rintro v M' ⟨q1, q2, q3, q4⟩
      exact ⟨q1, q2, (fun z => by cases z), fun _ => q3, q4⟩
    · refine xF_callV o_Mo_refer [.int (oI t'), .int 0] rfl z_Mo_has i_Mo_has v_Mo_has l_Mo_165 rfl ⟨⟨by decide, by decide⟩, rfl, rfl⟩ (Nat.le_of_ble_eq_true rfl) rfl rfl rfl (E_has l G P M1 hM.1 hw (oI t') 0) ?_
      rintro w M ⟨rfl, b, rfl, hb2⟩
      clear hK K
      have hb3 : b = true := by
        cases t' with
        | none => exact absurd rfl (show ¬ oI none = -1 from by assumption)
        | some j => exact hb2.mpr ⟨j, 0, (g3 j rfl).1, rfl, (g3 j rfl).2, rfl⟩
      subst hb3
      refine xF_go o_Mo_refer [25] 60 (fun K hK => ?_)
      repeat' ((conv => whnf); first | refine ⟨fun h => ?_, fun h => ?_⟩ | refine ⟨?_, ?_⟩ | refine hK _ _ _ _ ?_)
      · refine xF_post ?_ (fin M hM k' p' t' g1 g2 g3)
        rintro v M' ⟨q1, q2, q3, q4⟩
        exact ⟨q1, q2, (fun z => by cases z), fun _ => q3, q4⟩
      · exact absurd (show b2 true = 0 from by assumption) (by decide)
end XMQ
end
section
/-! the reference's calls that tell, on -/
section XMS
variable (l : Launch) (G : xG)
theorem E_Mcode (P P' : sP) (M : xMe) (hM : mP P M) (hw : wP P) (f o a b c r0 : Int32) (ac : Bool) (hr : rCode P f o a b c P' r0 ac) : xE l G y_Mo_code [.ref 50, .int f, .int o, .int a, .int b, .int c] M (fun r M' => r = some (.int r0) ∧ mP P' M' ∧ (ac = false → M' = M) ∧ (ac = true → M'.1 50 = upd (M.1 50) 26 0) ∧ xfr [50, 57, 58, 59, 60, 61] M M') := by
  obtain ⟨h1, h2, h3, h4, h5, h6⟩ := id hM
  refine xE_of [some (.ref 50), some (.int f), some (.int o), some (.int a), some (.int b), some (.int c), none] (by decide +kernel) (Nat.le_of_ble_eq_true rfl) rfl ?_
  refine xF_go o_Mo_code [] 60 (fun K hK => ?_)
  repeat' ((conv => whnf); first | refine ⟨fun h => ?_, fun h => ?_⟩ | refine ⟨?_, ?_⟩ | refine hK _ _ _ _ ?_)
  refine xF_callS o_Mo_code [.int f, .int 0, .int 11] rfl z_Mo_in s_Mo_in l_Mo_157 rfl ⟨⟨by decide, by decide⟩, rfl, rfl⟩ (Nat.le_of_ble_eq_true rfl) rfl (E_in l G f 0 11 M) ?_
  rintro w M1 ⟨rfl, rfl⟩
  clear hK K
  by_cases hf : 0 ≤ f ∧ f ≤ 11
  · rw [if_pos hf]
    obtain ⟨f', hf', rfl⟩ := nI_of12 (x := f) (by grind)
    have hcl : (nI f').toNatClampNeg = f' := nI_clamp (by omega)
    have hlen := (h4 f' hf').1
    have hl40 := (hw.2.2.2.1 f' hf').1
    refine xF_go o_Mo_code [] 60 (fun K hK => ?_)
    repeat' ((conv => whnf); first | refine ⟨fun h => ?_, fun h => ?_⟩ | refine ⟨?_, ?_⟩ | refine hK _ _ _ _ ?_)
    · exact absurd h (by decide)
    · exact vp_in_nI hf' (by decide)
    · have h7 : M1.1 57 (nI f').toNatClampNeg = nI 40 := by assumption
      rw [hcl, hlen] at h7
      have h8 := nI_inj (by omega) (by omega) h7
      rcases hr with ⟨hn, rfl, rfl, rfl⟩ | ⟨f2, o', hf2, g40, e, -⟩
      · refine xF_iret o_Mo_code rfl rfl ?_
        exact ⟨rfl, hM, fun _ => rfl, (fun z => by cases z), xfr.rf⟩
      · have := nI_inj (by omega) (by omega) e
        subst this
        omega
    · have h7 : ¬ M1.1 57 (nI f').toNatClampNeg = nI 40 := by assumption
      rw [hcl, hlen] at h7
      have h8 : (pC P f').length < 40 := by
        have : (pC P f').length ≠ 40 := fun z => h7 (by rw [z])
        omega
      refine xF_callS o_Mo_code [.int o, .int a, .int b, .int c] rfl z_Mo_isTold s_Mo_isTold l_Mo_178 rfl ⟨⟨by decide, by decide⟩, rfl, rfl⟩ (Nat.le_of_ble_eq_true rfl) rfl (E_isTold l G o a b c M1) ?_
      rintro w M ⟨rfl, z, rfl, hz⟩
      clear hK K
      rcases hr with ⟨hn, rfl, rfl, rfl⟩ | ⟨f2, o', hf2, g40, e, rfl, hvn, rfl, rfl, rfl⟩
      · have hz0 : z = false := by
          cases z
          · rfl
          · exact absurd ⟨⟨f', hf', rfl, h8⟩, hz.mp rfl⟩ hn
        subst hz0
        refine xF_go o_Mo_code [] 60 (fun K hK => ?_)
        repeat' ((conv => whnf); first | refine ⟨fun h => ?_, fun h => ?_⟩ | refine ⟨?_, ?_⟩ | refine hK _ _ _ _ ?_)
        all_goals first | exact absurd rfl (show ¬ (b2 false) = 0 from by assumption) | skip
        refine xF_iret o_Mo_code rfl rfl ?_
        exact ⟨rfl, hM, fun _ => rfl, (fun z => by cases z), xfr.rf⟩
      · have := nI_inj (by omega) (by omega) e
        subst this
        have hz1 : z = true := by
          refine hz.mpr ?_
          unfold vN at hvn
          unfold vIns
          split at hvn
          all_goals first | exact hvn.elim | (rename_i e9; dsimp only at e9; subst e9; dsimp only at hvn; first | exact Or.inl ⟨rfl, hvn⟩ | exact Or.inr (Or.inl ⟨rfl, hvn⟩) | exact Or.inr (Or.inr (Or.inl ⟨rfl, hvn⟩)) | exact Or.inr (Or.inr (Or.inr (Or.inl ⟨rfl, hvn⟩))) | exact Or.inr (Or.inr (Or.inr (Or.inr (Or.inl ⟨rfl, hvn⟩)))) | exact Or.inr (Or.inr (Or.inr (Or.inr (Or.inr (Or.inl ⟨rfl, hvn⟩))))) | exact Or.inr (Or.inr (Or.inr (Or.inr (Or.inr (Or.inr (Or.inl ⟨rfl, hvn⟩)))))) | exact Or.inr (Or.inr (Or.inr (Or.inr (Or.inr (Or.inr (Or.inr (Or.inl ⟨rfl, hvn⟩))))))) | exact Or.inr (Or.inr (Or.inr (Or.inr (Or.inr (Or.inr (Or.inr (Or.inr (Or.inl ⟨rfl, hvn⟩)))))))) | exact Or.inr (Or.inr (Or.inr (Or.inr (Or.inr (Or.inr (Or.inr (Or.inr (Or.inr (Or.inl ⟨rfl, hvn⟩))))))))) | exact Or.inr (Or.inr (Or.inr (Or.inr (Or.inr (Or.inr (Or.inr (Or.inr (Or.inr (Or.inr (Or.inl ⟨rfl, hvn⟩)))))))))) | exact Or.inr (Or.inr (Or.inr (Or.inr (Or.inr (Or.inr (Or.inr (Or.inr (Or.inr (Or.inr (Or.inr ⟨rfl, hvn⟩)))))))))))
        subst hz1
        have hix : (41 * nI f' + M.1 57 (nI f').toNatClampNeg) = nI (41 * f' + (pC P f').length) := by rw [hcl, hlen, nI_41', nI_add]
        have hix2 : (41 * nI f' + M.1 57 (nI f').toNatClampNeg).toNatClampNeg = 41 * f' + (pC P f').length := by rw [hix, nI_clamp (by omega)]
        refine xF_go o_Mo_code [] 60 (fun K hK => ?_)
        repeat' ((conv => whnf); first | refine ⟨fun h => ?_, fun h => ?_⟩ | refine ⟨?_, ?_⟩ | refine hK _ _ _ _ ?_)
        · exact vp_in_nI hf' (by decide)
        · rw [hix]; exact vp_in_nI (N := 492) (by omega) (by decide)
        · rw [hix]; exact vp_in_nI (N := 492) (by omega) (by decide)
        · rw [hix]; exact vp_in_nI (N := 492) (by omega) (by decide)
        · rw [hix]; exact vp_in_nI (N := 492) (by omega) (by decide)
        · exact vp_in_nI hf' (by decide)
        · exact vp_in_nI hf' (by decide)
        · exact Or.inl rfl
        · exact vp_in_nI hf' (by decide)
        · refine xF_iret o_Mo_code rfl rfl ?_
          rw [hix2]
          generalize hN : xsI _ 50 _ = N
          have n57 : N.1 57 = upd (M.1 57) (nI f').toNatClampNeg (M.1 57 (nI f').toNatClampNeg + 1) := by rw [← hN]; rfl
          have n58 : N.1 58 = upd (M.1 58) (41 * f' + (pC P f').length) (nI o') := by rw [← hN]; rfl
          have n59 : N.1 59 = upd (M.1 59) (41 * f' + (pC P f').length) a := by rw [← hN]; rfl
          have n60 : N.1 60 = upd (M.1 60) (41 * f' + (pC P f').length) b := by rw [← hN]; rfl
          have n61 : N.1 61 = upd (M.1 61) (41 * f' + (pC P f').length) c := by rw [← hN]; rfl
          have n50 : N.1 50 = upd (M.1 50) 26 0 := by rw [← hN]; rfl
          have nf : xfr [50, 57, 58, 59, 60, 61] M N := by
            rw [← hN]
            exact (((((xfr.rf.I (by simp)).I (by simp)).I (by simp)).I (by simp)).I (by simp)).I (by simp)
          clear hN
          rw [hcl, hlen, nI_1] at n57
          refine ⟨?_, ⟨?_, ?_, ?_, ?_, ?_, ?_⟩, (fun z => by cases z), fun _ => n50, nf⟩
          · rw [n57, hcl, upd_s]
          · intro j hj
            rw [(nf 51 (by simp)).1, (nf 52 (by simp)).1, (nf 53 (by simp)).1, (nf 56 (by simp)).1]
            exact h1 j hj
          · intro j hj q hq
            rw [(nf 54 (by simp)).1]
            exact h2 j hj q hq
          · intro j hj q hq
            rw [(nf 55 (by simp)).1]
            exact h3 j hj q hq
          · intro g hg
            obtain ⟨g1, g2⟩ := h4 g hg
            have hgl := (hw.2.2.2.1 g hg).1
            rw [sCode_C, n57, n58, n59, n60, n61]
            by_cases e : g = f'
            · subst e
              rw [if_pos rfl, upd_s]
              refine ⟨by simp, fun i q hi => ?_⟩
              by_cases e2 : i = (pC P g).length
              · subst e2
                rw [List.getElem?_append_right (by omega)] at hi
                simp at hi
                subst hi
                rw [show g * 41 + (pC P g).length = 41 * g + (pC P g).length by omega, upd_s, upd_s, upd_s, upd_s]
                exact ⟨rfl, rfl, rfl, rfl⟩
              · have hi2 : i < (pC P g).length := by
                  have := (List.getElem?_eq_some_iff.mp hi).1
                  simp at this
                  omega
                rw [List.getElem?_append_left hi2] at hi
                rw [upd_n (by omega), upd_n (by omega), upd_n (by omega), upd_n (by omega)]
                exact g2 i q hi
            · rw [if_neg e, upd_n e]
              refine ⟨g1, fun i q hi => ?_⟩
              have hi2 : i < (pC P g).length := (List.getElem?_eq_some_iff.mp hi).1
              rw [upd_n (by omega), upd_n (by omega), upd_n (by omega), upd_n (by omega)]
              exact g2 i q hi
          · intro g hg
            rw [(nf 62 (by simp)).1]
            exact h5 g hg
          · refine ⟨?_, fun i v' hv => ?_⟩
            · rw [n50, upd_n (by decide)]
              exact h6.1
            · rw [(nf 63 (by simp)).1]
              exact h6.2 i v' hv
        · exact absurd (show b2 true = 0 from by assumption) (by decide)
  · rw [if_neg hf]
    rcases hr with ⟨hn, rfl, rfl, rfl⟩ | ⟨f2, o', hf2, g40, rfl, -⟩
    · refine xF_go o_Mo_code [] 60 (fun K hK => ?_)
      repeat' ((conv => whnf); first | refine ⟨fun h => ?_, fun h => ?_⟩ | refine ⟨?_, ?_⟩ | refine hK _ _ _ _ ?_)
      · refine xF_iret o_Mo_code rfl rfl ?_
        exact ⟨rfl, hM, fun _ => rfl, (fun z => by cases z), xfr.rf⟩
      all_goals exact absurd rfl (show ¬ (0 : Int32) = 0 from by assumption)
    · have := nI_12 hf2
      exact absurd ⟨this.1, by grind⟩ hf
end XMS
end
section
/-! the reference's bytes, input, item -/
section XMT
variable (l : Launch) (G : xG)
theorem L_Mbytes (k p n s : Nat) (hk : k < 24) (hn : n ≤ 8) (hps : p < s) (hs : s ≤ 64) (v : Int64) (M0 : xMe) (hsz : M0.1 51 k = nI s) (Q : Option Value → xMe → Prop) (hnext : Q (some (.int (nI (min n (s - p))))) (xsI (xsI M0 54 (fun i => if k * 64 + p ≤ i ∧ i < k * 64 + p + min n (s - p) then nI (vbyte v (i - (k * 64 + p))) else M0.1 54 i)) 50 (upd (M0.1 50) 26 0))) : ∀ (d i : Nat), d + i = min n (s - p) → xF l G y_Mo_bytes 24 [some (.ref 50), some (.int (nI k)), some (.int (nI p)), some (.int (nI n)), some (.long v), none, some (.int (nI i))] [] (xsI M0 54 (fun j => if k * 64 + p ≤ j ∧ j < k * 64 + p + i then nI (vbyte v (j - (k * 64 + p))) else M0.1 54 j)) Q := by
  have hcl : (nI k).toNatClampNeg = k := nI_clamp (by omega)
  intro d
  induction d with
  | zero =>
    intro i hi
    have e : i = min n (s - p) := by omega
    have e51 : ∀ F, (xsI M0 54 F).1 51 (nI k).toNatClampNeg = nI s := fun F => by rw [hcl]; exact hsz
    refine xF_go o_Mo_bytes [24] 80 (fun K hK => ?_)
    repeat' ((conv => whnf); first | refine ⟨fun h => ?_, fun h => ?_⟩ | refine ⟨?_, ?_⟩ | refine hK _ _ _ _ ?_)
    · exact Or.inl rfl
    · refine xF_iret o_Mo_bytes rfl rfl ?_
      rw [e]
      exact hnext
    · exact vp_in_nI hk (by decide)
    · exact Or.inl rfl
    · refine xF_iret o_Mo_bytes rfl rfl ?_
      rw [e]
      exact hnext
    all_goals
      have q1 : nI i < nI n := by assumption
      have q2 : nI p + nI i < (xsI M0 54 (fun j => if k * 64 + p ≤ j ∧ j < k * 64 + p + i then nI (vbyte v (j - (k * 64 + p))) else M0.1 54 j)).1 51 (nI k).toNatClampNeg := by assumption
      rw [e51, nI_add, nI_ltI (by omega) (by omega)] at q2
      rw [nI_ltI (by omega) (by omega)] at q1
      omega
  | succ d ih =>
    intro i hi
    have e51 : ∀ F, (xsI M0 54 F).1 51 (nI k).toNatClampNeg = nI s := fun F => by rw [hcl]; exact hsz
    have q1 : nI i < nI n := nI_lt (by omega) (by omega)
    have q2 : ∀ F, nI p + nI i < (xsI M0 54 F).1 51 (nI k).toNatClampNeg := fun F => by rw [e51, nI_add]; exact nI_lt (by omega) (by omega)
    refine xF_go o_Mo_bytes [24] 80 (fun K hK => ?_)
    repeat' ((conv => whnf); first | refine ⟨fun h => ?_, fun h => ?_⟩ | refine ⟨?_, ?_⟩ | refine hK _ _ _ _ ?_)
    · exact Or.inl rfl
    · exact absurd q1 (by assumption)
    · exact vp_in_nI hk (by decide)
    · exact Or.inl rfl
    · exact absurd (q2 _) (by assumption)
    · rw [nI_64, nI_add, nI_add]
      exact vp_in_nI (N := 1536) (by omega) (by decide)
    · rw [nI_1, nI_64, nI_add, nI_add, nI_clamp (by omega), xsI_II, xsI_s, oct_m v (by omega)]
      have e := ih (i + 1) (by omega)
      rw [xsI_c (g := upd (fun j => if k * 64 + p ≤ j ∧ j < k * 64 + p + i then nI (vbyte v (j - (k * 64 + p))) else M0.1 54 j) (64 * k + p + i) (nI (vbyte v i)))] at e
      · exact e
      · intro j
        unfold upd
        by_cases ej : j = 64 * k + p + i
        · subst ej
          rw [if_pos (by omega), if_pos rfl]
          congr 2
          omega
        · rw [if_neg ej]
          dsimp only
          by_cases e2 : k * 64 + p ≤ j ∧ j < k * 64 + p + i
          · rw [if_pos e2, if_pos (by omega)]
          · rw [if_neg e2, if_neg (by omega)]
theorem E_Mbytes (P P' : sP) (M : xMe) (hM : mP P M) (hw : wP P) (k p n r0 : Int32) (v : Int64) (ac : Bool) (hr : rBytes P k p n v P' r0 ac) : xE l G y_Mo_bytes [.ref 50, .int k, .int p, .int n, .long v] M (fun r M' => r = some (.int r0) ∧ mP P' M' ∧ (ac = false → M' = M) ∧ (ac = true → M'.1 50 = upd (M.1 50) 26 0) ∧ xfr [50, 54] M M') := by
  obtain ⟨h1, h2, h3, h4, h5, h6⟩ := id hM
  refine xE_of [some (.ref 50), some (.int k), some (.int p), some (.int n), some (.long v), none, none] (by decide +kernel) (Nat.le_of_ble_eq_true rfl) rfl ?_
  refine xF_go o_Mo_bytes [] 60 (fun K hK => ?_)
  repeat' ((conv => whnf); first | refine ⟨fun h => ?_, fun h => ?_⟩ | refine ⟨?_, ?_⟩ | refine hK _ _ _ _ ?_)
  refine xF_callV o_Mo_bytes [.int k, .int p] rfl z_Mo_has i_Mo_has v_Mo_has l_Mo_165 rfl ⟨⟨by decide, by decide⟩, rfl, rfl⟩ (Nat.le_of_ble_eq_true rfl) rfl rfl rfl (E_has l G P M hM.1 hw k p) ?_
  rintro w M1 ⟨rfl, b, rfl, hb⟩
  clear hK K
  rcases hr with ⟨hn, rfl, rfl, rfl⟩ | ⟨k', p', n', g1, g2, g3, g4, rfl, rfl, rfl, rfl, rfl, rfl⟩
  · cases b with
    | false =>
      refine xF_go o_Mo_bytes [24] 60 (fun K hK => ?_)
      repeat' ((conv => whnf); first | refine ⟨fun h => ?_, fun h => ?_⟩ | refine ⟨?_, ?_⟩ | refine hK _ _ _ _ ?_)
      · refine xF_iret o_Mo_bytes rfl rfl ?_
        exact ⟨rfl, hM, fun _ => rfl, (fun z => by cases z), xfr.rf⟩
      all_goals exact absurd rfl (show ¬ (b2 false) = 0 from by assumption)
    | true =>
      refine xF_go o_Mo_bytes [24] 60 (fun K hK => ?_)
      repeat' ((conv => whnf); first | refine ⟨fun h => ?_, fun h => ?_⟩ | refine ⟨?_, ?_⟩ | refine hK _ _ _ _ ?_)
      · exact absurd h (by decide)
      · refine xF_callS o_Mo_bytes [.int n, .int 1, .int 8] rfl z_Mo_in s_Mo_in l_Mo_157 rfl ⟨⟨by decide, by decide⟩, rfl, rfl⟩ (Nat.le_of_ble_eq_true rfl) rfl (E_in l G n 1 8 M1) ?_
        rintro w M ⟨rfl, rfl⟩
        clear hK K
        rw [if_neg (fun z => hn ⟨hb.mp rfl, z⟩)]
        refine xF_go o_Mo_bytes [24] 60 (fun K hK => ?_)
        repeat' ((conv => whnf); first | refine ⟨fun h => ?_, fun h => ?_⟩ | refine ⟨?_, ?_⟩ | refine hK _ _ _ _ ?_)
        · exact absurd rfl (show ¬ (0 : Int32) = 0 from by assumption)
        · refine xF_iret o_Mo_bytes rfl rfl ?_
          exact ⟨rfl, hM, fun _ => rfl, (fun z => by cases z), xfr.rf⟩
  · have hb1 : b = true := hb.mpr ⟨k', p', g1, rfl, g2, rfl⟩
    subst hb1
    have hs := (hw.1 k' g1).1
    refine xF_go o_Mo_bytes [24] 60 (fun K hK => ?_)
    repeat' ((conv => whnf); first | refine ⟨fun h => ?_, fun h => ?_⟩ | refine ⟨?_, ?_⟩ | refine hK _ _ _ _ ?_)
    · exact absurd h (by decide)
    · refine xF_callS o_Mo_bytes [.int (nI n'), .int 1, .int 8] rfl z_Mo_in s_Mo_in l_Mo_157 rfl ⟨⟨by decide, by decide⟩, rfl, rfl⟩ (Nat.le_of_ble_eq_true rfl) rfl (E_in l G (nI n') 1 8 M1) ?_
      rintro w M ⟨rfl, rfl⟩
      clear hK K
      rw [if_pos ⟨nI_le (a := 1) g3 (by omega), nI_le (b := 8) g4 (by omega)⟩]
      refine xF_go o_Mo_bytes [24] 60 (fun K hK => ?_)
      repeat' ((conv => whnf); first | refine ⟨fun h => ?_, fun h => ?_⟩ | refine ⟨?_, ?_⟩ | refine hK _ _ _ _ ?_)
      · have e0 : M = xsI M 54 (fun j => if k' * 64 + p' ≤ j ∧ j < k' * 64 + p' + 0 then nI (vbyte v (j - (k' * 64 + p'))) else M.1 54 j) := (xsI_id (fun i => by rw [if_neg (by omega)])).symm
        have key := L_Mbytes l G k' p' n' (pS P k') g1 g4 g2 hs v M (h1 k' g1).1 (fun r M' => r = some (.int (nI (min n' (pS P k' - p')))) ∧ mP (sBytes P k' p' (min n' (pS P k' - p')) v) M' ∧ (true = false → M' = M) ∧ (true = true → M'.1 50 = upd (M.1 50) 26 0) ∧ xfr [50, 54] M M') ?_ (min n' (pS P k' - p')) 0 (by omega)
        · rw [← e0] at key
          exact key
        · refine ⟨rfl, ⟨fun j hj => h1 j hj, fun j hj q hq => ?_, fun j hj q hq => h3 j hj q hq, fun g hg => h4 g hg, fun g hg => h5 g hg, h6⟩, (fun z => by cases z), fun _ => rfl, (xfr.rf.I (by simp)).I (by simp)⟩
          show (if k' * 64 + p' ≤ j * 64 + q ∧ j * 64 + q < k' * 64 + p' + min n' (pS P k' - p') then nI (vbyte v (j * 64 + q - (k' * 64 + p'))) else M.1 54 (j * 64 + q)) = _
          rw [sBytes_O]
          by_cases e : j = k' ∧ p' ≤ q ∧ q < p' + min n' (pS P k' - p')
          · rw [if_pos e, if_pos (by omega)]
            congr 2
            omega
          · rw [if_neg e, if_neg (by omega)]
            exact h2 j hj q hq
      · exact absurd h (by decide)
theorem L_Minput (L n : Nat) (hn : n ≤ 8) (hL : L + n ≤ 200) (v : Int64) (M0 : xMe) (Q : Option Value → xMe → Prop) (hnext : Q (some (.int (nI (L + n)))) (xsI (xsI M0 63 (fun i => if L ≤ i ∧ i < L + n then nI (vbyte v (i - L)) else M0.1 63 i)) 50 (upd (M0.1 50) 14 (nI (L + n))))) : ∀ (d i : Nat), d + i = n → xF l G y_Mo_input1 27 [some (.ref 50), some (.int (nI n)), some (.long v), none, some (.int (nI i))] [] (xsI (xsI M0 63 (fun j => if L ≤ j ∧ j < L + i then nI (vbyte v (j - L)) else M0.1 63 j)) 50 (upd (M0.1 50) 14 (nI (L + i)))) Q := by
  intro d
  induction d with
  | zero =>
    intro i hi
    refine xF_go o_Mo_input1 [27] 60 (fun K hK => ?_)
    repeat' ((conv => whnf); first | refine ⟨fun h => ?_, fun h => ?_⟩ | refine ⟨?_, ?_⟩ | refine hK _ _ _ _ ?_)
    · refine xF_iret o_Mo_input1 rfl rfl ?_
      have e : i = n := by omega
      subst e
      rw [xsI_1, if_pos rfl, upd_s]
      exact hnext
    all_goals exact absurd (show nI i < nI n from by assumption) (nI_nlt (by omega) (by omega))
  | succ d ih =>
    intro i hi
    have e14 : (xsI (xsI M0 63 (fun j => if L ≤ j ∧ j < L + i then nI (vbyte v (j - L)) else M0.1 63 j)) 50 (upd (M0.1 50) 14 (nI (L + i)))).1 50 14 = nI (L + i) := by rw [xsI_1, if_pos rfl, upd_s]
    refine xF_go o_Mo_input1 [27] 60 (fun K hK => ?_)
    repeat' ((conv => whnf); first | refine ⟨fun h => ?_, fun h => ?_⟩ | refine ⟨?_, ?_⟩ | refine hK _ _ _ _ ?_)
    · exact absurd (nI_lt (by omega) (by omega)) h
    · rw [e14]
      exact vp_in_nI (N := 200) (by omega) (by decide)
    · rw [e14, nI_1, nI_clamp (by omega), oct_m v (by omega)]
      have e := ih (i + 1) (by omega)
      have eM : xsI (xsI (xsI (xsI M0 63 (fun j => if L ≤ j ∧ j < L + i then nI (vbyte v (j - L)) else M0.1 63 j)) 50 (upd (M0.1 50) 14 (nI (L + i)))) 63 (upd (fun j => if L ≤ j ∧ j < L + i then nI (vbyte v (j - L)) else M0.1 63 j) (L + i) (nI (vbyte v i)))) 50 (upd (upd (M0.1 50) 14 (nI (L + i))) 14 (nI (L + i) + 1)) = xsI (xsI M0 63 (fun j => if L ≤ j ∧ j < L + (i + 1) then nI (vbyte v (j - L)) else M0.1 63 j)) 50 (upd (M0.1 50) 14 (nI (L + (i + 1)))) := by
        have a1 : (fun j => if L ≤ j ∧ j < L + (i + 1) then nI (vbyte v (j - L)) else M0.1 63 j) = upd (fun j => if L ≤ j ∧ j < L + i then nI (vbyte v (j - L)) else M0.1 63 j) (L + i) (nI (vbyte v i)) := by
          funext j
          unfold upd
          by_cases ej : j = L + i
          · subst ej
            rw [if_pos (by omega), if_pos rfl]
            congr 2
            omega
          · rw [if_neg ej]
            dsimp only
            by_cases e2 : L ≤ j ∧ j < L + i
            · rw [if_pos e2, if_pos (by omega)]
            · rw [if_neg e2, if_neg (by omega)]
        have a2 : upd (upd (M0.1 50) 14 (nI (L + i))) 14 (nI (L + i) + 1) = upd (M0.1 50) 14 (nI (L + (i + 1))) := by
          funext j
          unfold upd
          by_cases ej : j = 14
          · simp [ej, nI_1]
            rfl
          · simp [ej]
        rw [a1, a2]
        unfold xsI
        congr 1
        funext a
        by_cases a50 : a = 50
        · simp [a50]
        · by_cases a63 : a = 63 <;> simp [a50, a63]
      rw [← eM] at e
      exact e
theorem E_Minput1 (P P' : sP) (M : xMe) (hM : mP P M) (hw : wP P) (n r0 : Int32) (v : Int64) (hr : rInput P n v P' r0) : xE l G y_Mo_input1 [.ref 50, .int n, .long v] M (fun r M' => r = some (.int r0) ∧ mP P' M' ∧ (∀ j, j ≠ 14 → M'.1 50 j = M.1 50 j) ∧ xfr [50, 63] M M') := by
  obtain ⟨h1, h2, h3, h4, h5, h6⟩ := id hM
  have hl := hw.2.2.2.2.1
  refine xE_of [some (.ref 50), some (.int n), some (.long v), none, none] (by decide +kernel) (Nat.le_of_ble_eq_true rfl) rfl ?_
  refine xF_go o_Mo_input1 [] 60 (fun K hK => ?_)
  repeat' ((conv => whnf); first | refine ⟨fun h => ?_, fun h => ?_⟩ | refine ⟨?_, ?_⟩ | refine hK _ _ _ _ ?_)
  refine xF_callS o_Mo_input1 [.int n, .int 1, .int 8] rfl z_Mo_in s_Mo_in l_Mo_157 rfl ⟨⟨by decide, by decide⟩, rfl, rfl⟩ (Nat.le_of_ble_eq_true rfl) rfl (E_in l G n 1 8 M) ?_
  rintro w M1 ⟨rfl, rfl⟩
  clear hK K
  rcases hr with ⟨hn, rfl, rfl⟩ | ⟨n', g1, g2, rfl, g3, rfl, rfl⟩
  · by_cases hn8 : 1 ≤ n ∧ n ≤ 8
    · rw [if_pos hn8]
      obtain ⟨n', hn', rfl⟩ := nI_ofN (x := n) (n := 9) (by decide) (by grind) (by have : (nI 9 : Int32) = 9 := rfl; rw [this]; grind)
      have hn1 : 1 ≤ n' := by
        rcases Nat.eq_zero_or_pos n' with q | q
        · rw [q] at hn8; exact absurd hn8.1 (by decide)
        · exact q
      refine xF_go o_Mo_input1 [27] 60 (fun K hK => ?_)
      repeat' ((conv => whnf); first | refine ⟨fun h => ?_, fun h => ?_⟩ | refine ⟨?_, ?_⟩ | refine hK _ _ _ _ ?_)
      · exact absurd h (by decide)
      · have h7 : ¬ nI 200 < M1.1 50 14 + nI n' := by assumption
        rw [h6.1, nI_add, nI_ltI (by omega) (by omega)] at h7
        exact absurd ⟨n', hn1, by omega, rfl, by omega⟩ hn
      · refine xF_iret o_Mo_input1 rfl rfl ?_
        exact ⟨rfl, hM, fun _ _ => rfl, xfr.rf⟩
    · rw [if_neg hn8]
      refine xF_go o_Mo_input1 [27] 60 (fun K hK => ?_)
      repeat' ((conv => whnf); first | refine ⟨fun h => ?_, fun h => ?_⟩ | refine ⟨?_, ?_⟩ | refine hK _ _ _ _ ?_)
      · refine xF_iret o_Mo_input1 rfl rfl ?_
        exact ⟨rfl, hM, fun _ _ => rfl, xfr.rf⟩
      all_goals exact absurd rfl (show ¬ (0 : Int32) = 0 from by assumption)
  · rw [if_pos ⟨nI_le (a := 1) g1 (by omega), nI_le (b := 8) g2 (by omega)⟩]
    refine xF_go o_Mo_input1 [27] 60 (fun K hK => ?_)
    repeat' ((conv => whnf); first | refine ⟨fun h => ?_, fun h => ?_⟩ | refine ⟨?_, ?_⟩ | refine hK _ _ _ _ ?_)
    · exact absurd h (by decide)
    · have e0 : M1 = xsI (xsI M1 63 (fun j => if (pI P).length ≤ j ∧ j < (pI P).length + 0 then nI (vbyte v (j - (pI P).length)) else M1.1 63 j)) 50 (upd (M1.1 50) 14 (nI ((pI P).length + 0))) := by
        rw [xsI_id (M := M1) (c := 63) (fun i => by rw [if_neg (by omega)]), xsI_id]
        intro i
        unfold upd
        by_cases e : i = 14
        · subst e
          rw [if_pos rfl]
          exact h6.1.symm
        · rw [if_neg e]
      have key := L_Minput l G (pI P).length n' g2 g3 v M1 (fun r M' => r = some (.int (nI ((pI P).length + n'))) ∧ mP (sInput P n' v) M' ∧ (∀ j, j ≠ 14 → M'.1 50 j = M1.1 50 j) ∧ xfr [50, 63] M1 M') ?_ n' 0 (by omega)
      · rw [← e0] at key
        exact key
      · refine ⟨rfl, ⟨fun j hj => h1 j hj, fun j hj q hq => h2 j hj q hq, fun j hj q hq => h3 j hj q hq, fun g hg => h4 g hg, fun g hg => h5 g hg, ?_, ?_⟩, fun j hj => ?_, (xfr.rf.I (by simp)).I (by simp)⟩
        · rw [xsI_1, if_pos rfl, upd_s, sInput_I]
          simp
        · intro i w hi
          show (if (pI P).length ≤ i ∧ i < (pI P).length + n' then nI (vbyte v (i - (pI P).length)) else M1.1 63 i) = _
          rw [sInput_I] at hi
          by_cases e : i < (pI P).length
          · rw [if_neg (by omega)]
            rw [List.getElem?_append_left e] at hi
            exact h6.2 i w hi
          · have hi2 := (List.getElem?_eq_some_iff.mp hi).1
            simp at hi2
            rw [if_pos (by omega)]
            rw [List.getElem?_append_right (by omega), List.getElem?_map, List.getElem?_range (by omega)] at hi
            simp at hi
            rw [hi]
        · rw [xsI_1, if_pos rfl, upd_n hj]
    · have h7 : nI 200 < M1.1 50 14 + nI n' := by assumption
      rw [h6.1, nI_add, nI_ltI (by omega) (by omega)] at h7
      omega
end XMT
end
section
/-! the reference's item -/
section XMU
variable (l : Launch) (G : xG)
theorem L_Mitem1 (k : Nat) (hk : k < 24) (n a g z : Int32) (M0 : xMe) (Q : Option Value → xMe → Prop) (hnext : xF l G y_Mo_item 125 [some (.ref 50), some (.int (nI k)), some (.int n), some (.int a), some (.int g), some (.int z), some (.int (nI 64))] [] (xsI (xsI M0 54 (fun i => if k * 64 ≤ i ∧ i < k * 64 + 64 then 0 else M0.1 54 i)) 55 (fun i => if k * 64 ≤ i ∧ i < k * 64 + 64 then -1 else M0.1 55 i)) Q) : ∀ (m p : Nat), m + p = 64 → xF l G y_Mo_item 86 [some (.ref 50), some (.int (nI k)), some (.int n), some (.int a), some (.int g), some (.int z), some (.int (nI p))] [] (xsI (xsI M0 54 (fun i => if k * 64 ≤ i ∧ i < k * 64 + p then 0 else M0.1 54 i)) 55 (fun i => if k * 64 ≤ i ∧ i < k * 64 + p then -1 else M0.1 55 i)) Q := by
  intro m
  induction m with
  | zero =>
    intro p hp
    refine xF_go o_Mo_item [86, 125] 60 (fun K hK => ?_)
    repeat' ((conv => whnf); first | refine ⟨fun h => ?_, fun h => ?_⟩ | refine ⟨?_, ?_⟩ | refine hK _ _ _ _ ?_)
    · have e : p = 64 := by omega
      subst e
      exact hnext
    all_goals exact absurd (show nI p < nI 64 from by assumption) (nI_nlt (by omega) (by omega))
  | succ m ih =>
    intro p hp
    refine xF_go o_Mo_item [86, 125] 60 (fun K hK => ?_)
    repeat' ((conv => whnf); first | refine ⟨fun h => ?_, fun h => ?_⟩ | refine ⟨?_, ?_⟩ | refine hK _ _ _ _ ?_)
    · exact absurd (nI_lt (b := 64) (by omega) (by omega)) h
    · rw [nI_64, nI_add]
      exact vp_in_nI (N := 1536) (by omega) (by decide)
    · rw [nI_64, nI_add]
      exact vp_in_nI (N := 1536) (by omega) (by decide)
    · rw [nI_1, nI_64, nI_add, nI_clamp (by omega)]
      have e := ih (p + 1) (by omega)
      have eM : xsI (xsI (xsI (xsI M0 54 (fun i => if k * 64 ≤ i ∧ i < k * 64 + p then 0 else M0.1 54 i)) 55 (fun i => if k * 64 ≤ i ∧ i < k * 64 + p then -1 else M0.1 55 i)) 54 (upd (fun i => if k * 64 ≤ i ∧ i < k * 64 + p then 0 else M0.1 54 i) (64 * k + p) 0)) 55 (upd (fun i => if k * 64 ≤ i ∧ i < k * 64 + p then -1 else M0.1 55 i) (64 * k + p) (-1)) = xsI (xsI M0 54 (fun i => if k * 64 ≤ i ∧ i < k * 64 + (p + 1) then 0 else M0.1 54 i)) 55 (fun i => if k * 64 ≤ i ∧ i < k * 64 + (p + 1) then -1 else M0.1 55 i) := by
        have a1 : (fun i => if k * 64 ≤ i ∧ i < k * 64 + (p + 1) then 0 else M0.1 54 i) = upd (fun i => if k * 64 ≤ i ∧ i < k * 64 + p then 0 else M0.1 54 i) (64 * k + p) 0 := by
          funext i
          unfold upd
          grind
        have a2 : (fun i => if k * 64 ≤ i ∧ i < k * 64 + (p + 1) then -1 else M0.1 55 i) = upd (fun i => if k * 64 ≤ i ∧ i < k * 64 + p then -1 else M0.1 55 i) (64 * k + p) (-1) := by
          funext i
          unfold upd
          grind
        rw [a1, a2]
        unfold xsI
        congr 1
        funext b
        by_cases b5 : b = 55
        · simp [b5]
        · by_cases b4 : b = 54 <;> simp [b5, b4]
      rw [← eM] at e
      exact e
theorem L_Mitem2 (k : Nat) (hk : k < 24) (a g z : Int32) (M0 : xMe) (Q : Option Value → xMe → Prop) (hnext : Q (some (.int 1)) (xsI (xsI M0 55 (fun i => if i < 1536 ∧ M0.1 55 i = nI k then -1 else M0.1 55 i)) 50 (upd (M0.1 50) 26 0))) : ∀ (m p : Nat), m + p = 1536 → xF l G y_Mo_item 128 [some (.ref 50), some (.int (nI k)), some (.int 0), some (.int a), some (.int g), some (.int z), some (.int (nI p))] [] (xsI M0 55 (fun i => if i < p ∧ M0.1 55 i = nI k then -1 else M0.1 55 i)) Q := by
  intro m
  induction m with
  | zero =>
    intro p hp
    have e : p = 1536 := by omega
    refine xF_go o_Mo_item [128] 60 (fun K hK => ?_)
    repeat' ((conv => whnf); first | refine ⟨fun h => ?_, fun h => ?_⟩ | refine ⟨?_, ?_⟩ | refine hK _ _ _ _ ?_)
    · exact Or.inl rfl
    · refine xF_zret o_Mo_item rfl rfl (Or.inr rfl) ?_
      subst e
      exact hnext
    all_goals exact absurd (show nI p < nI 1536 from by assumption) (nI_nlt (by omega) (by omega))
  | succ m ih =>
    intro p hp
    have hcl : (nI p).toNatClampNeg = p := nI_clamp (by omega)
    have hstep : ∀ x : Int32, x = (if M0.1 55 p = nI k then -1 else M0.1 55 p) → xsI (xsI M0 55 (fun i => if i < p ∧ M0.1 55 i = nI k then -1 else M0.1 55 i)) 55 (upd (fun i => if i < p ∧ M0.1 55 i = nI k then -1 else M0.1 55 i) p x) = xsI M0 55 (fun i => if i < p + 1 ∧ M0.1 55 i = nI k then -1 else M0.1 55 i) := by
      rintro x rfl
      rw [xsI_II]
      refine xsI_c (fun i => ?_)
      unfold upd
      by_cases e : i = p
      · subst e
        simp
      · rw [if_neg e]
        dsimp only
        by_cases e2 : i < p ∧ M0.1 55 i = nI k
        · rw [if_pos e2, if_pos ⟨by omega, e2.2⟩]
        · rw [if_neg e2, if_neg (fun q => e2 ⟨by omega, q.2⟩)]
    have hrd : (xsI M0 55 (fun i => if i < p ∧ M0.1 55 i = nI k then -1 else M0.1 55 i)).1 55 (nI p).toNatClampNeg = M0.1 55 p := by
      rw [hcl, xsI_1, if_pos rfl, if_neg (by omega)]
    refine xF_go o_Mo_item [128] 60 (fun K hK => ?_)
    repeat' ((conv => whnf); first | refine ⟨fun h => ?_, fun h => ?_⟩ | refine ⟨?_, ?_⟩ | refine hK _ _ _ _ ?_)
    · exact Or.inl rfl
    · exact absurd (nI_lt (a := p) (b := 1536) (by omega) (by omega)) h
    · exact Or.inl rfl
    · exact absurd rfl (show ¬ (0 : Int32) = 0 from by assumption)
    · exact vp_in_nI (N := 1536) (by omega) (by decide)
    · exact vp_in_nI (N := 1536) (by omega) (by decide)
    · exact vp_in_nI (N := 1536) (by omega) (by decide)
    · have hq : ¬ (xsI M0 55 (fun i => if i < p ∧ M0.1 55 i = nI k then -1 else M0.1 55 i)).1 55 (nI p).toNatClampNeg = nI k := by assumption
      rw [hrd] at hq
      rw [hrd, hcl, nI_1, xsI_s, hstep _ (by rw [if_neg hq])]
      exact ih (p + 1) (by omega)
    · exact vp_in_nI (N := 1536) (by omega) (by decide)
    · have hq : (xsI M0 55 (fun i => if i < p ∧ M0.1 55 i = nI k then -1 else M0.1 55 i)).1 55 (nI p).toNatClampNeg = nI k := by assumption
      rw [hrd] at hq
      rw [hcl, nI_1, xsI_s, hstep _ (by rw [if_pos hq])]
      exact ih (p + 1) (by omega)
theorem mP_item {P : sP} {M N : xMe} (hM : mP P M) (hw : wP P) {k n a g : Nat} {v : Bool} (hk : k < 24) (n51 : N.1 51 = upd (M.1 51) k (nI n)) (n52 : N.1 52 = upd (M.1 52) k (nI a)) (n53 : N.1 53 = upd (M.1 53) k (nI g)) (n56 : N.1 56 = upd (M.1 56) k (b2 v)) (n54 : ∀ i, N.1 54 i = if k * 64 ≤ i ∧ i < k * 64 + 64 then 0 else M.1 54 i) (n55 : ∀ i, i < 1536 → N.1 55 i = if k * 64 ≤ i ∧ i < k * 64 + 64 then -1 else if n = 0 ∧ M.1 55 i = nI k then -1 else M.1 55 i) (n50 : N.1 50 14 = M.1 50 14) (nf : xfr [50, 51, 52, 53, 54, 55, 56] M N) : mP (sItem P k n a g v) N := by
  obtain ⟨h1, h2, h3, h4, h5, h6⟩ := hM
  refine ⟨?_, ?_, ?_, ?_, ?_, ?_⟩
  · intro j hj
    rw [n51, n52, n53, n56]
    have hj1 := h1 j hj
    rw [sItem_S, sItem_A, sItem_G, sItem_V]
    unfold upd
    by_cases e : j = k
    · simp [e]
    · simp [e, hj1]
  · intro j hj p hp
    rw [n54]
    by_cases e : j = k
    · subst e
      rw [if_pos (by omega), sItem_O, if_pos rfl]
      rfl
    · rw [if_neg (by omega), sItem_O, if_neg e]
      exact h2 j hj p hp
  · intro j hj p hp
    rw [n55 _ (by omega), sItem_R, h3 j hj p hp]
    by_cases e : j = k
    · subst e
      rw [if_pos (by omega), if_pos rfl]
      rfl
    · rw [if_neg (by omega), if_neg e]
      have hiff : oI (pR P j p) = nI k ↔ pR P j p = some k := by
        cases hr : pR P j p with
        | none =>
          refine ⟨fun z => ?_, fun z => by cases z⟩
          have z2 : (-1 : Int32) = nI k := z
          exact absurd (z2 ▸ nI_pos' (n := k) (by omega)) (by decide)
        | some t =>
          have ht := (hw.2.2.1 j hj p hp t hr).1
          refine ⟨fun z => ?_, fun z => ?_⟩
          · have z2 : nI t = nI k := z
            rw [nI_inj (by omega) (by omega) z2]
          · cases z
            rfl
      by_cases e2 : n = 0 ∧ pR P j p = some k
      · rw [if_pos e2, if_pos ⟨e2.1, hiff.mpr e2.2⟩]
        rfl
      · rw [if_neg e2, if_neg (fun z => e2 ⟨z.1, hiff.mp z.2⟩)]
  · intro f' hf'
    rw [(nf 57 (by simp)).1, (nf 58 (by simp)).1, (nf 59 (by simp)).1, (nf 60 (by simp)).1, (nf 61 (by simp)).1]
    exact h4 f' hf'
  · intro f' hf'
    rw [(nf 62 (by simp)).1]
    exact h5 f' hf'
  · refine ⟨?_, fun i v' hv => ?_⟩
    · rw [n50]
      exact h6.1
    · rw [(nf 63 (by simp)).1]
      exact h6.2 i v' hv
theorem E_Mitem (P P' : sP) (M : xMe) (hM : mP P M) (hw : wP P) (k n a g r0 : Int32) (v ac : Bool) (hr : rItem P k n a g v P' r0 ac) : xE l G y_Mo_item [.ref 50, .int k, .int n, .int a, .int g, .int (b2 v)] M (fun r M' => r = some (.int r0) ∧ mP P' M' ∧ (ac = false → M' = M) ∧ (ac = true → M'.1 50 = upd (M.1 50) 26 0) ∧ xfr [50, 51, 52, 53, 54, 55, 56] M M') := by
  -- what follows the tests
  have fin : ∀ (M : xMe), mP P M → ∀ (k' n' a' g' : Nat), k' < 24 → n' ≤ 64 → a' < 9 → g' ≤ 3 → xF l G y_Mo_item 53 [some (.ref 50), some (.int (nI k')), some (.int (nI n')), some (.int (nI a')), some (.int (nI g')), some (.int (b2 v)), none] [] M (fun r M' => r = some (.int 1) ∧ mP (sItem P k' n' a' g' v) M' ∧ M'.1 50 = upd (M.1 50) 26 0 ∧ xfr [50, 51, 52, 53, 54, 55, 56] M M') := by
    intro M hM k' n' a' g' c1 c2 c3 c4
    refine xF_go o_Mo_item [86] 60 (fun K hK => ?_)
    repeat' ((conv => whnf); first | refine ⟨fun h => ?_, fun h => ?_⟩ | refine ⟨?_, ?_⟩ | refine hK _ _ _ _ ?_)
    · exact vp_in_nI c1 (by decide)
    · exact vp_in_nI c1 (by decide)
    · exact vp_in_nI c1 (by decide)
    · exact vp_in_nI c1 (by decide)
    · exact b2_01 v
    rw [nI_clamp (by omega)]
    generalize hM1 : xsI _ 56 _ = M1
    have q51 : M1.1 51 = upd (M.1 51) k' (nI n') := by rw [← hM1]; rfl
    have q52 : M1.1 52 = upd (M.1 52) k' (nI a') := by rw [← hM1]; rfl
    have q53 : M1.1 53 = upd (M.1 53) k' (nI g') := by rw [← hM1]; rfl
    have q56 : M1.1 56 = upd (M.1 56) k' (b2 v) := by rw [← hM1]; rfl
    have q54 : M1.1 54 = M.1 54 := by rw [← hM1]; rfl
    have q55 : M1.1 55 = M.1 55 := by rw [← hM1]; rfl
    have q50 : M1.1 50 = M.1 50 := by rw [← hM1]; rfl
    have qf : xfr [50, 51, 52, 53, 54, 55, 56] M M1 := by
      rw [← hM1]
      exact (((xfr.rf.I (by simp)).I (by simp)).I (by simp)).I (by simp)
    clear hM1
    have e0 : M1 = xsI (xsI M1 54 (fun i => if k' * 64 ≤ i ∧ i < k' * 64 + 0 then 0 else M1.1 54 i)) 55 (fun i => if k' * 64 ≤ i ∧ i < k' * 64 + 0 then -1 else M1.1 55 i) := by
      rw [xsI_id (M := M1) (c := 54) (fun i => by rw [if_neg (by omega)]), xsI_id (fun i => by rw [if_neg (by omega)])]
    rw [e0]
    refine L_Mitem1 l G k' c1 _ _ _ _ M1 _ ?_ 64 0 (by omega)
    clear hK K
    refine xF_go o_Mo_item [128] 60 (fun K hK => ?_)
    repeat' ((conv => whnf); first | refine ⟨fun h => ?_, fun h => ?_⟩ | refine ⟨?_, ?_⟩ | refine hK _ _ _ _ ?_)
    by_cases hn0 : n' = 0
    · subst hn0
      generalize hM2 : xsI _ 55 _ = M2
      have p54 : M2.1 54 = (fun i => if k' * 64 ≤ i ∧ i < k' * 64 + 64 then 0 else M1.1 54 i) := by rw [← hM2]; rfl
      have p55 : M2.1 55 = (fun i => if k' * 64 ≤ i ∧ i < k' * 64 + 64 then -1 else M1.1 55 i) := by rw [← hM2]; rfl
      have p51 : M2.1 51 = M1.1 51 := by rw [← hM2]; rfl
      have p52 : M2.1 52 = M1.1 52 := by rw [← hM2]; rfl
      have p53 : M2.1 53 = M1.1 53 := by rw [← hM2]; rfl
      have p56 : M2.1 56 = M1.1 56 := by rw [← hM2]; rfl
      have p50 : M2.1 50 = M1.1 50 := by rw [← hM2]; rfl
      have pf : xfr [50, 51, 52, 53, 54, 55, 56] M M2 := by
        rw [← hM2]
        exact (qf.I (by simp)).I (by simp)
      clear hM2
      have e1 : M2 = xsI M2 55 (fun i => if i < 0 ∧ M2.1 55 i = nI k' then -1 else M2.1 55 i) := (xsI_id (fun i => by rw [if_neg (by omega)])).symm
      have key := L_Mitem2 l G k' c1 (nI a') (nI g') (b2 v) M2 (fun r M' => r = some (.int 1) ∧ mP (sItem P k' 0 a' g' v) M' ∧ M'.1 50 = upd (M.1 50) 26 0 ∧ xfr [50, 51, 52, 53, 54, 55, 56] M M') ?_ 1536 0 (by omega)
      · rw [← e1] at key
        exact key
      · refine ⟨rfl, mP_item hM hw c1 (p51.trans q51) (p52.trans q52) (p53.trans q53) (p56.trans q56) (fun i => ?_) (fun i hi => ?_) ?_ ((pf.I (by simp)).I (by simp)), ?_, (pf.I (by simp)).I (by simp)⟩
        · show M2.1 54 i = _
          rw [p54, q54]
        · show (if i < 1536 ∧ M2.1 55 i = nI k' then -1 else M2.1 55 i) = _
          rw [p55, q55]
          dsimp only
          grind
        · rw [xsI_1, if_pos rfl, upd_n (by decide), p50, q50]
        · rw [xsI_1, if_pos rfl, p50, q50]
    · clear hK K
      refine xF_go o_Mo_item [] 60 (fun K hK => ?_)
      repeat' ((conv => whnf); first | refine ⟨fun h => ?_, fun h => ?_⟩ | refine ⟨?_, ?_⟩ | refine hK _ _ _ _ ?_)
      · exact Or.inl rfl
      · exact absurd (show (0 : Int32) < 1536 from by decide) (by assumption)
      · exact Or.inl rfl
      · refine xF_zret o_Mo_item rfl rfl (Or.inr rfl) ?_
        refine ⟨rfl, mP_item hM hw c1 q51 q52 q53 q56 (fun i => ?_) (fun i hi => ?_) ?_ (((qf.I (by simp)).I (by simp)).I (by simp)), ?_, ((qf.I (by simp)).I (by simp)).I (by simp)⟩
        · show (if k' * 64 ≤ i ∧ i < k' * 64 + 64 then 0 else M1.1 54 i) = _
          rw [q54]
        · show (if k' * 64 ≤ i ∧ i < k' * 64 + 64 then -1 else M1.1 55 i) = _
          rw [q55, if_neg (c := n' = 0 ∧ M.1 55 i = nI k') (fun z => hn0 z.1)]
        · rw [xsI_1, if_pos rfl, upd_n (by decide)]
          show M1.1 50 14 = _
          rw [q50]
        · rw [xsI_1, if_pos rfl]
          show upd (M1.1 50) 26 0 = _
          rw [q50]
      all_goals exact absurd (nI_inj (a := n') (b := 0) (by omega) (by omega) (show nI n' = nI 0 from by assumption)) hn0
  have out : ∀ M1 : xMe, mP P M1 → ¬ vItem k n a g → (some (Value.int 0) = some (.int r0) ∧ mP P' M1 ∧ (ac = false → M1 = M1) ∧ (ac = true → M1.1 50 = upd (M1.1 50) 26 0) ∧ xfr [50, 51, 52, 53, 54, 55, 56] M1 M1) := by
    intro M1 hM1 hv
    rcases hr with ⟨-, rfl, rfl, rfl⟩ | ⟨k', n', a', g', c1, c2, c3, c4, rfl, rfl, rfl, rfl, -⟩
    · exact ⟨rfl, hM1, fun _ => rfl, (fun z => by cases z), xfr.rf⟩
    · refine absurd ?_ hv
      refine ⟨nI_24 c1, ⟨nI_pos' (by omega), nI_le (b := 64) c2 (by omega)⟩, ?_, ⟨nI_pos' (by omega), nI_le (b := 3) c4 (by omega)⟩⟩
      rcases c3 with rfl | rfl | rfl | rfl
      · exact Or.inl rfl
      · exact Or.inr (Or.inl rfl)
      · exact Or.inr (Or.inr (Or.inl rfl))
      · exact Or.inr (Or.inr (Or.inr rfl))
  have yes : ∀ M1 : xMe, mP P M1 → vItem k n a g → xF l G y_Mo_item 53 [some (.ref 50), some (.int k), some (.int n), some (.int a), some (.int g), some (.int (b2 v)), none] [] M1 (fun r M' => r = some (.int r0) ∧ mP P' M' ∧ (ac = false → M' = M1) ∧ (ac = true → M'.1 50 = upd (M1.1 50) 26 0) ∧ xfr [50, 51, 52, 53, 54, 55, 56] M1 M') := by
    intro M1 hM1 hv
    rcases hr with ⟨hv2, -⟩ | ⟨k', n', a', g', c1, c2, c3, c4, rfl, rfl, rfl, rfl, rfl, rfl, rfl⟩
    · exact absurd hv hv2
    · refine xF_post ?_ (fin M1 hM1 k' n' a' g' c1 c2 (by omega) c4)
      rintro r M' ⟨z1, z2, z3, z4⟩
      exact ⟨z1, z2, (fun z => by cases z), fun _ => z3, z4⟩
  clear fin
  refine xE_of [some (.ref 50), some (.int k), some (.int n), some (.int a), some (.int g), some (.int (b2 v)), none] (by decide +kernel) (Nat.le_of_ble_eq_true rfl) rfl ?_
  refine xF_go o_Mo_item [53] 60 (fun K hK => ?_)
  repeat' ((conv => whnf); first | refine ⟨fun h => ?_, fun h => ?_⟩ | refine ⟨?_, ?_⟩ | refine hK _ _ _ _ ?_)
  refine xF_callS o_Mo_item [.int k, .int 0, .int 23] rfl z_Mo_in s_Mo_in l_Mo_157 rfl ⟨⟨by decide, by decide⟩, rfl, rfl⟩ (Nat.le_of_ble_eq_true rfl) rfl (E_in l G k 0 23 M) ?_
  rintro w M1 ⟨rfl, rfl⟩
  clear hK K
  refine xF_go o_Mo_item [53] 60 (fun K hK => ?_)
  repeat' ((conv => whnf); first | refine ⟨fun h => ?_, fun h => ?_⟩ | refine ⟨?_, ?_⟩ | refine hK _ _ _ _ ?_)
  · refine xF_zret o_Mo_item rfl rfl (Or.inl rfl) ?_
    exact out M1 hM (fun z => by unfold vItem at z; grind)
  refine xF_callS o_Mo_item [.int n, .int 0, .int 64] rfl z_Mo_in s_Mo_in l_Mo_157 rfl ⟨⟨by decide, by decide⟩, rfl, rfl⟩ (Nat.le_of_ble_eq_true rfl) rfl (E_in l G n 0 64 M1) ?_
  rintro w M ⟨rfl, rfl⟩
  clear hK K
  refine xF_go o_Mo_item [53] 60 (fun K hK => ?_)
  have lastc : ∀ (_ : 0 ≤ k ∧ k ≤ 23) (_ : 0 ≤ n ∧ n ≤ 64) (_ : a = 1 ∨ a = 2 ∨ a = 4 ∨ a = 8), xF l G y_Mo_item 45 [some (.ref 50), some (.int k), some (.int n), some (.int a), some (.int g), some (.int (b2 v)), none] [.int 3, .int 0, .int g] M (fun r M' => r = some (.int r0) ∧ mP P' M' ∧ (ac = false → M' = M) ∧ (ac = true → M'.1 50 = upd (M.1 50) 26 0) ∧ xfr [50, 51, 52, 53, 54, 55, 56] M M') := by
    intro w1 w2 w3
    refine xF_callS o_Mo_item [.int g, .int 0, .int 3] rfl z_Mo_in s_Mo_in l_Mo_157 rfl ⟨⟨by decide, by decide⟩, rfl, rfl⟩ (Nat.le_of_ble_eq_true rfl) rfl (E_in l G g 0 3 M) ?_
    rintro w M1 ⟨rfl, rfl⟩
    refine xF_go o_Mo_item [53] 60 (fun K hK => ?_)
    repeat' ((conv => whnf); first | refine ⟨fun h => ?_, fun h => ?_⟩ | refine ⟨?_, ?_⟩ | refine hK _ _ _ _ ?_)
    · exact yes M1 hM (by unfold vItem; grind)
    · refine xF_zret o_Mo_item rfl rfl (Or.inl rfl) ?_
      exact out M1 hM (fun z => by unfold vItem at z; grind)
  repeat' ((conv => whnf); first | refine ⟨fun h => ?_, fun h => ?_⟩ | refine ⟨?_, ?_⟩ | refine hK _ _ _ _ ?_)
  · refine xF_zret o_Mo_item rfl rfl (Or.inl rfl) ?_
    exact out M hM (fun z => by unfold vItem at z; grind)
  · exact lastc (by grind) (by grind) (by grind)
  · exact lastc (by grind) (by grind) (by grind)
  · exact lastc (by grind) (by grind) (by grind)
  · refine xF_zret o_Mo_item rfl rfl (Or.inl rfl) ?_
    exact out M hM (fun z => by unfold vItem at z; grind)
  · exact lastc (by grind) (by grind) (by grind)
end XMU
end
section
/-! what is told of the last run -/
abbrev sX : Type := Bool × List Nat × Nat × Option Nat × Option Nat
def wX (X : sX) : Prop := X.2.1.length ≤ 2000 ∧ (X.1 = false → X.2.1 = [])
def cX (X : sX) (M : xMe) : Prop := M.1 43 7 = b2 X.1 ∧ M.1 43 12 = nI X.2.1.length ∧ (∀ i v, i < 100 → X.2.1[i]? = some v → M.1 49 i = nI v) ∧ (X.1 = true → M.1 43 13 = nI X.2.2.1 ∧ M.1 43 9 = oI X.2.2.2.1 ∧ M.1 43 10 = oI X.2.2.2.2)
def mX (X : sX) (M : xMe) : Prop := M.1 50 24 = b2 X.1 ∧ M.1 50 20 = nI X.2.1.length ∧ (∀ i v, i < 100 → X.2.1[i]? = some v → M.1 66 i = nI v) ∧ (X.1 = true → M.1 50 21 = nI X.2.2.1 ∧ M.1 50 22 = oI X.2.2.2.1 ∧ M.1 50 23 = oI X.2.2.2.2)
def rRan (X : sX) (w r : Int32) : Prop := (X.1 = false → r = -1) ∧ (X.1 = true → (w = 0 → r = nI X.2.1.length) ∧ (w = 1 → r = nI X.2.2.1) ∧ (w = 2 → r = oI X.2.2.2.1) ∧ (w = 3 → r = oI X.2.2.2.2) ∧ (¬ w = 0 → ¬ w = 1 → ¬ w = 2 → ¬ w = 3 → r = -1))
def rOut (X : sX) (i r : Int32) : Prop := (∀ j, j < X.2.1.length → j < 100 → i = nI j → ∃ v, X.2.1[j]? = some v ∧ r = nI v) ∧ ((¬ ∃ j, j < X.2.1.length ∧ j < 100 ∧ i = nI j) → r = -1)
theorem rRan_one {X : sX} {w r r' : Int32} (h : rRan X w r) (h' : rRan X w r') : r = r' := by
  obtain ⟨a, b⟩ := h
  obtain ⟨a', b'⟩ := h'
  cases hX : X.1 with
  | false => rw [a hX, a' hX]
  | true =>
    obtain ⟨b0, b1, b2, b3, b4⟩ := b hX
    obtain ⟨c0, c1, c2, c3, c4⟩ := b' hX
    by_cases e0 : w = 0
    · rw [b0 e0, c0 e0]
    · by_cases e1 : w = 1
      · rw [b1 e1, c1 e1]
      · by_cases e2 : w = 2
        · rw [b2 e2, c2 e2]
        · by_cases e3 : w = 3
          · rw [b3 e3, c3 e3]
          · rw [b4 e0 e1 e2 e3, c4 e0 e1 e2 e3]
theorem rOut_one {X : sX} {i r r' : Int32} (h : rOut X i r) (h' : rOut X i r') : r = r' := by
  by_cases e : ∃ j, j < X.2.1.length ∧ j < 100 ∧ i = nI j
  · obtain ⟨j, h1, h2, h3⟩ := e
    obtain ⟨v, e1, e2⟩ := h.1 j h1 h2 h3
    obtain ⟨v', e1', e2'⟩ := h'.1 j h1 h2 h3
    rw [e1] at e1'
    cases e1'
    rw [e2, e2']
  · rw [h.2 e, h'.2 e]
section XRN
variable (l : Launch) (G : xG)
theorem E_tell (X : sX) (M : xMe) (hM : cX X M) (w : Int32) : xE l G y_Ma_tell [.ref 43, .int w] M (fun r M' => M' = M ∧ ∃ r0, r = some (.int r0) ∧ rRan X w r0) := by
  obtain ⟨h1, h2, h3, h4⟩ := hM
  refine xE_of [some (.ref 43), some (.int w)] (by decide +kernel) (Nat.le_of_ble_eq_true rfl) rfl ?_
  refine xF_go o_Ma_tell [9] 60 (fun K hK => ?_)
  repeat' ((conv => whnf); first | refine ⟨fun h => ?_, fun h => ?_⟩ | refine ⟨?_, ?_⟩ | refine hK _ _ _ _ ?_)
  · rw [h1] at h
    have hX : X.1 = true := by
      cases hx : X.1 with
      | true => rfl
      | false => rw [hx] at h; exact absurd rfl h
    obtain ⟨g1, g2, g3⟩ := h4 hX
    clear hK K h
    refine xF_go o_Ma_tell [] 60 (fun K hK => ?_)
    repeat' ((conv => whnf); first | refine ⟨fun h => ?_, fun h => ?_⟩ | refine ⟨?_, ?_⟩ | refine hK _ _ _ _ ?_)
    · refine xF_iret o_Ma_tell rfl rfl ?_
      have e : w = 0 := by assumption
      refine ⟨rfl, _, rfl, (fun z => absurd (hX.symm.trans z) (by decide)), fun _ => ⟨fun _ => h2, ?_, ?_, ?_, ?_⟩⟩ <;> intro z <;> rw [e] at z <;> exact absurd z (by decide)
    · refine xF_iret o_Ma_tell rfl rfl ?_
      have e : w = 1 := by assumption
      refine ⟨rfl, _, rfl, (fun z => absurd (hX.symm.trans z) (by decide)), fun _ => ⟨?_, fun _ => g1, ?_, ?_, ?_⟩⟩
      · intro z; rw [e] at z; exact absurd z (by decide)
      · intro z; rw [e] at z; exact absurd z (by decide)
      · intro z; rw [e] at z; exact absurd z (by decide)
      · intro _ z; exact absurd e z
    · refine xF_iret o_Ma_tell rfl rfl ?_
      have e : w = 2 := by assumption
      refine ⟨rfl, _, rfl, (fun z => absurd (hX.symm.trans z) (by decide)), fun _ => ⟨?_, ?_, fun _ => g2, ?_, ?_⟩⟩
      · intro z; rw [e] at z; exact absurd z (by decide)
      · intro z; rw [e] at z; exact absurd z (by decide)
      · intro z; rw [e] at z; exact absurd z (by decide)
      · intro _ _ z; exact absurd e z
    · refine xF_iret o_Ma_tell rfl rfl ?_
      have e : w = 3 := by assumption
      refine ⟨rfl, _, rfl, (fun z => absurd (hX.symm.trans z) (by decide)), fun _ => ⟨?_, ?_, ?_, fun _ => g3, ?_⟩⟩
      · intro z; rw [e] at z; exact absurd z (by decide)
      · intro z; rw [e] at z; exact absurd z (by decide)
      · intro z; rw [e] at z; exact absurd z (by decide)
      · intro _ _ _ z; exact absurd e z
    · refine xF_iret o_Ma_tell rfl rfl ?_
      have e0 : ¬ w = 0 := by assumption
      have e1 : ¬ w = 1 := by assumption
      have e2 : ¬ w = 2 := by assumption
      have e3 : ¬ w = 3 := by assumption
      exact ⟨rfl, _, rfl, (fun z => absurd (hX.symm.trans z) (by decide)), fun _ => ⟨fun z => absurd z e0, fun z => absurd z e1, fun z => absurd z e2, fun z => absurd z e3, fun _ _ _ _ => rfl⟩⟩
  · rw [h1] at h
    have hX : X.1 = false := b2_0.mp h
    refine xF_iret o_Ma_tell rfl rfl ?_
    exact ⟨rfl, _, rfl, fun _ => rfl, fun z => absurd (hX.symm.trans z) (by decide)⟩
theorem E_DSran (X : sX) (M : xMe) (hM : cX X M) (w : Int32) : xE l G y_DS_ran [.ref 0, .int w] M (fun r M' => M' = M ∧ ∃ r0, r = some (.int r0) ∧ rRan X w r0) := by
  refine xE_of [some (.ref 0), some (.int w)] (by decide +kernel) (Nat.le_of_ble_eq_true rfl) rfl ?_
  refine xF_go o_DS_ran [] 60 (fun K hK => ?_)
  repeat' ((conv => whnf); first | refine ⟨fun h => ?_, fun h => ?_⟩ | refine ⟨?_, ?_⟩ | refine hK _ _ _ _ ?_)
  refine xF_callV o_DS_ran [.int w] rfl z_Ma_tell i_Ma_tell v_Ma_tell l_DS_113 rfl ⟨⟨by decide, by decide⟩, rfl, rfl⟩ (Nat.le_of_ble_eq_true rfl) rfl rfl rfl (E_tell l G X M hM w) ?_
  rintro v M' ⟨rfl, r0, rfl, hr⟩
  clear hK K
  refine xF_go o_DS_ran [] 60 (fun K hK => ?_)
  repeat' ((conv => whnf); first | refine ⟨fun h => ?_, fun h => ?_⟩ | refine ⟨?_, ?_⟩ | refine hK _ _ _ _ ?_)
  refine xF_iret o_DS_ran rfl rfl ?_
  exact ⟨rfl, r0, rfl, hr⟩
theorem E_sentAt (X : sX) (M : xMe) (hM : cX X M) (hw : wX X) (i : Int32) : xE l G y_Ma_sentAt [.ref 43, .int i] M (fun r M' => M' = M ∧ ∃ r0, r = some (.int r0) ∧ rOut X i r0) := by
  obtain ⟨h1, h2, h3, h4⟩ := hM
  have hlen := hw.1
  refine xE_of [some (.ref 43), some (.int i)] (by decide +kernel) (Nat.le_of_ble_eq_true rfl) rfl ?_
  refine xF_go o_Ma_sentAt [] 60 (fun K hK => ?_)
  repeat' ((conv => whnf); first | refine ⟨fun h => ?_, fun h => ?_⟩ | refine ⟨?_, ?_⟩ | refine hK _ _ _ _ ?_)
  rw [h2]
  refine xF_callS o_Ma_sentAt [.int (nI X.2.1.length), .int 100] rfl z_JM_min s_JM_min l_Ma_68 rfl ⟨⟨by decide, by decide⟩, rfl, rfl⟩ (Nat.le_of_ble_eq_true rfl) rfl (E_min l G (nI X.2.1.length) 100 M) ?_
  rintro v M' ⟨rfl, rfl⟩
  clear hK K
  have emin : (if nI X.2.1.length ≤ 100 then nI X.2.1.length else 100) = nI (min X.2.1.length 100) := by
    show (if nI X.2.1.length ≤ nI 100 then nI X.2.1.length else nI 100) = _
    by_cases e : X.2.1.length ≤ 100
    · rw [if_pos (nI_le (b := 100) e (by omega)), Nat.min_eq_left e]
    · rw [if_neg (fun z => e ((nI_leI (b := 100) (by omega) (by omega)).mp z)), Nat.min_eq_right (by omega)]
  rw [emin]
  refine xF_go o_Ma_sentAt [] 60 (fun K hK => ?_)
  repeat' ((conv => whnf); first | refine ⟨fun h => ?_, fun h => ?_⟩ | refine ⟨?_, ?_⟩ | refine hK _ _ _ _ ?_)
  refine xF_callS o_Ma_sentAt [.int i, .int 0, .int _] rfl z_DS_within s_DS_within l_Ma_74 rfl ⟨⟨by decide, by decide⟩, rfl, rfl⟩ (Nat.le_of_ble_eq_true rfl) rfl (E_within l G i 0 _ M') ?_
  rintro v M ⟨rfl, rfl⟩
  clear hK K
  by_cases e : ∃ j, j < X.2.1.length ∧ j < 100 ∧ i = nI j
  · obtain ⟨j, g1, g2, rfl⟩ := e
    rw [if_pos ⟨nI_pos' (by omega), by rw [show (nI (min X.2.1.length 100) - 1 : Int32) = nI (min X.2.1.length 100 - 1) from pk_sub (b := 1) (by omega)]; exact nI_le (by omega) (by omega)⟩]
    refine xF_go o_Ma_sentAt [] 60 (fun K hK => ?_)
    repeat' ((conv => whnf); first | refine ⟨fun h => ?_, fun h => ?_⟩ | refine ⟨?_, ?_⟩ | refine hK _ _ _ _ ?_)
    · exact absurd h (by decide)
    · exact vp_in_nI g2 (by decide)
    · refine xF_iret o_Ma_sentAt rfl rfl ?_
      rw [nI_clamp (by omega)]
      refine ⟨rfl, _, rfl, fun j' c1 c2 c3 => ?_, fun z => absurd ⟨j, g1, g2, rfl⟩ z⟩
      have := nI_inj (by omega) (by omega) c3
      subst this
      exact ⟨X.2.1[j], List.getElem?_eq_getElem g1, h3 j _ g2 (List.getElem?_eq_getElem g1)⟩
  · rw [if_neg (fun z => by
      rcases Nat.eq_zero_or_pos X.2.1.length with h0 | h0
      · rw [h0] at z
        have : (nI (min 0 100) - 1 : Int32) = -1 := by decide
        rw [this] at z
        grind
      · rw [show (nI (min X.2.1.length 100) - 1 : Int32) = nI (min X.2.1.length 100 - 1) from pk_sub (b := 1) (by omega)] at z
        obtain ⟨q, hq, eq⟩ := nI_ofN (x := i) (n := min X.2.1.length 100) (by omega) z.1 (by
          have h3 : nI (min X.2.1.length 100 - 1) < nI (min X.2.1.length 100) := nI_lt (by omega) (by omega)
          grind)
        exact e ⟨q, by omega, by omega, eq⟩)]
    refine xF_go o_Ma_sentAt [] 60 (fun K hK => ?_)
    repeat' ((conv => whnf); first | refine ⟨fun h => ?_, fun h => ?_⟩ | refine ⟨?_, ?_⟩ | refine hK _ _ _ _ ?_)
    · refine xF_iret o_Ma_sentAt rfl rfl ?_
      exact ⟨rfl, _, rfl, fun j' c1 c2 c3 => absurd ⟨j', c1, c2, c3⟩ e, fun _ => rfl⟩
    all_goals exact absurd rfl (show ¬ (0 : Int32) = 0 from by assumption)
theorem E_DSout (X : sX) (M : xMe) (hM : cX X M) (hw : wX X) (i : Int32) : xE l G y_DS_out [.ref 0, .int i] M (fun r M' => M' = M ∧ ∃ r0, r = some (.int r0) ∧ rOut X i r0) := by
  refine xE_of [some (.ref 0), some (.int i)] (by decide +kernel) (Nat.le_of_ble_eq_true rfl) rfl ?_
  refine xF_go o_DS_out [] 60 (fun K hK => ?_)
  repeat' ((conv => whnf); first | refine ⟨fun h => ?_, fun h => ?_⟩ | refine ⟨?_, ?_⟩ | refine hK _ _ _ _ ?_)
  refine xF_callV o_DS_out [.int i] rfl z_Ma_sentAt i_Ma_sentAt v_Ma_sentAt l_DS_116 rfl ⟨⟨by decide, by decide⟩, rfl, rfl⟩ (Nat.le_of_ble_eq_true rfl) rfl rfl rfl (E_sentAt l G X M hM hw i) ?_
  rintro v M' ⟨rfl, r0, rfl, hr⟩
  clear hK K
  refine xF_go o_DS_out [] 60 (fun K hK => ?_)
  repeat' ((conv => whnf); first | refine ⟨fun h => ?_, fun h => ?_⟩ | refine ⟨?_, ?_⟩ | refine hK _ _ _ _ ?_)
  refine xF_iret o_DS_out rfl rfl ?_
  exact ⟨rfl, r0, rfl, hr⟩
theorem E_Mran (X : sX) (M : xMe) (hM : mX X M) (w r0 : Int32) (hr : rRan X w r0) : xE l G y_Mo_ran [.ref 50, .int w] M (fun r M' => M' = M ∧ r = some (.int r0)) := by
  obtain ⟨h1, h2, h3, h4⟩ := hM
  obtain ⟨ra, rb⟩ := hr
  refine xE_of [some (.ref 50), some (.int w)] (by decide +kernel) (Nat.le_of_ble_eq_true rfl) rfl ?_
  refine xF_go o_Mo_ran [11] 60 (fun K hK => ?_)
  repeat' ((conv => whnf); first | refine ⟨fun h => ?_, fun h => ?_⟩ | refine ⟨?_, ?_⟩ | refine hK _ _ _ _ ?_)
  · rw [h1] at h
    have hX : X.1 = true := by
      cases hx : X.1 with
      | true => rfl
      | false => rw [hx] at h; exact absurd rfl h
    obtain ⟨g1, g2, g3⟩ := h4 hX
    obtain ⟨b0, b1, b2', b3, b4⟩ := rb hX
    clear hK K h
    refine xF_go o_Mo_ran [] 60 (fun K hK => ?_)
    repeat' ((conv => whnf); first | refine ⟨fun h => ?_, fun h => ?_⟩ | refine ⟨?_, ?_⟩ | refine hK _ _ _ _ ?_)
    all_goals refine xF_iret o_Mo_ran rfl rfl ⟨rfl, ?_⟩
    · rw [b4 (by assumption) (by assumption) (by assumption) (by assumption)]
    · rw [b3 (by assumption), g3]
    · rw [b2' (by assumption), g2]
    · rw [b1 (by assumption), g1]
    · rw [b0 (by assumption), h2]
  · rw [h1] at h
    have hX : X.1 = false := b2_0.mp h
    refine xF_iret o_Mo_ran rfl rfl ?_
    exact ⟨rfl, by rw [ra hX]⟩
theorem E_Mout (X : sX) (M : xMe) (hM : mX X M) (hw : wX X) (i r0 : Int32) (hr : rOut X i r0) : xE l G y_Mo_out [.ref 50, .int i] M (fun r M' => M' = M ∧ r = some (.int r0)) := by
  obtain ⟨h1, h2, h3, h4⟩ := hM
  have hlen := hw.1
  refine xE_of [some (.ref 50), some (.int i)] (by decide +kernel) (Nat.le_of_ble_eq_true rfl) rfl ?_
  refine xF_go o_Mo_out [] 60 (fun K hK => ?_)
  repeat' ((conv => whnf); first | refine ⟨fun h => ?_, fun h => ?_⟩ | refine ⟨?_, ?_⟩ | refine hK _ _ _ _ ?_)
  · rw [h1] at h
    have hX : X.1 = false := b2_0.mp h
    refine xF_iret o_Mo_out rfl rfl ?_
    refine ⟨rfl, ?_⟩
    rw [hr.2 (fun ⟨j, g1, _⟩ => by rw [hw.2 hX] at g1; simp at g1)]
  · refine xF_iret o_Mo_out rfl rfl ?_
    refine ⟨rfl, ?_⟩
    rw [hr.2 (fun ⟨j, g1, g2, e⟩ => absurd (show i < 0 from by assumption) (e ▸ nI_pos (by omega)))]
  · refine xF_iret o_Mo_out rfl rfl ?_
    refine ⟨rfl, ?_⟩
    rw [hr.2 (fun ⟨j, g1, g2, e⟩ => (show ¬ i < nI 100 from by assumption) (e ▸ nI_lt g2 (by omega)))]
  · refine xF_iret o_Mo_out rfl rfl ?_
    refine ⟨rfl, ?_⟩
    have hq : ¬ i < M.1 50 20 := by assumption
    rw [h2] at hq
    rw [hr.2 (fun ⟨j, g1, g2, e⟩ => hq (e ▸ nI_lt g1 (by omega)))]
  · obtain ⟨j, hj, rfl⟩ := nI_ofN (x := i) (n := 100) (by decide) (Int32.not_lt.mp (by assumption)) (by assumption)
    exact vp_in_nI hj (by decide)
  · obtain ⟨j, hj, rfl⟩ := nI_ofN (x := i) (n := 100) (by decide) (Int32.not_lt.mp (by assumption)) (by assumption)
    have hq : nI j < M.1 50 20 := by assumption
    rw [h2, nI_ltI (by omega) (by omega)] at hq
    refine xF_iret o_Mo_out rfl rfl ?_
    obtain ⟨v, e1, e2⟩ := hr.1 j hq hj rfl
    exact ⟨rfl, by rw [nI_clamp (by omega), e2, h3 j v hj e1]⟩
end XRN
end
section
/-! Machine: its small methods, by the cells -/
section XMA
variable (l : Launch) (G : xG)
theorem E_put (r : Nat) (hr : r < 4) (x : Int32) (M : xMe) : xE l G y_Ma_put [.ref 43, .int (nI r), .int x] M (fun v M' => v = some (.int (-1)) ∧ M' = xsI (xsI M 46 (upd (M.1 46) r x)) 43 (upd (M.1 43) 10 (M.1 43 10 + 1))) := by
  refine xE_of [some (.ref 43), some (.int (nI r)), some (.int x)] (by decide +kernel) (Nat.le_of_ble_eq_true rfl) rfl ?_
  refine xF_go o_Ma_put [] 60 (fun K hK => ?_)
  repeat' ((conv => whnf); first | refine ⟨fun h => ?_, fun h => ?_⟩ | refine ⟨?_, ?_⟩ | refine hK _ _ _ _ ?_)
  · exact vp_in_nI hr (by decide)
  · refine xF_iret o_Ma_put rfl rfl ?_
    rw [nI_clamp (by omega)]
    exact ⟨rfl, rfl⟩
theorem E_skip (f n : Nat) (hf : f < 12) (t : Int32) (M : xMe) (h9 : M.1 43 9 = nI f) (hl : M.1 9 f = nI n) : xE l G y_Ma_skip [.ref 43, .int t] M (fun v M' => v = some (.int (-1)) ∧ M' = xsI M 43 (upd (M.1 43) 10 (if t < 0 then nI n else t))) := by
  refine xE_of [some (.ref 43), some (.int t)] (by decide +kernel) (Nat.le_of_ble_eq_true rfl) rfl ?_
  refine xF_go o_Ma_skip [] 60 (fun K hK => ?_)
  repeat' ((conv => whnf); first | refine ⟨fun h => ?_, fun h => ?_⟩ | refine ⟨?_, ?_⟩ | refine hK _ _ _ _ ?_)
  · refine xF_iret o_Ma_skip rfl rfl ?_
    have h0 : ¬ t < 0 := by assumption
    rw [if_neg h0]
    exact ⟨rfl, rfl⟩
  · rw [h9]
    exact vp_in_nI hf (by decide)
  · refine xF_iret o_Ma_skip rfl rfl ?_
    have h0 : t < 0 := by assumption
    rw [if_pos h0, h9, nI_clamp (by omega), hl]
    exact ⟨rfl, rfl⟩
theorem E_send (c : Nat) (hc : c < 2 ^ 30) (x : Int32) (M : xMe) (h12 : M.1 43 12 = nI c) : xE l G y_Ma_send [.ref 43, .int x] M (fun v M' => v = some (.int (-1)) ∧ M' = xsI (if c < 100 then xsI M 49 (upd (M.1 49) c x) else M) 43 (upd (upd (M.1 43) 12 (nI (c + 1))) 10 (M.1 43 10 + 1))) := by
  refine xE_of [some (.ref 43), some (.int x)] (by decide +kernel) (Nat.le_of_ble_eq_true rfl) rfl ?_
  refine xF_go o_Ma_send [] 60 (fun K hK => ?_)
  repeat' ((conv => whnf); first | refine ⟨fun h => ?_, fun h => ?_⟩ | refine ⟨?_, ?_⟩ | refine hK _ _ _ _ ?_)
  · have h0 : ¬ M.1 43 12 < nI 100 := by assumption
    rw [h12, nI_ltI (by omega) (by omega)] at h0
    refine xF_iret o_Ma_send rfl rfl ?_
    rw [if_neg h0]
    refine ⟨rfl, ?_⟩
    rw [xsI_II, xsI_1, if_pos rfl, upd_n (by decide), h12, nI_1]
  · have h0 : M.1 43 12 < nI 100 := by assumption
    rw [h12, nI_ltI (by omega) (by omega)] at h0
    rw [h12]
    exact vp_in_nI h0 (by decide)
  · have h0 : M.1 43 12 < nI 100 := by assumption
    rw [h12, nI_ltI (by omega) (by omega)] at h0
    refine xF_iret o_Ma_send rfl rfl ?_
    rw [if_pos h0]
    refine ⟨rfl, ?_⟩
    have e43 : ∀ F, (xsI M 49 F).1 43 = M.1 43 := fun F => rfl
    rw [xsI_II, xsI_1, if_pos rfl, upd_n (by decide), e43, h12, nI_1, nI_clamp (by omega)]
theorem E_takeInput (n t : Nat) (hn : n ≤ 200) (ht : t ≤ n) (M : xMe) (h11 : M.1 43 11 = nI t) (h14 : M.1 1 14 = nI n) : xE l G y_Ma_takeInput [.ref 43] M (fun v M' => v = some (.int (if t < n then M.1 15 t else 0)) ∧ M' = xsI M 43 (upd (M.1 43) 11 (nI (if t < n then t + 1 else t)))) := by
  refine xE_of [some (.ref 43)] (by decide +kernel) (Nat.le_of_ble_eq_true rfl) rfl ?_
  refine xF_go o_Ma_takeInput [] 60 (fun K hK => ?_)
  repeat' ((conv => whnf); first | refine ⟨fun h => ?_, fun h => ?_⟩ | refine ⟨?_, ?_⟩ | refine hK _ _ _ _ ?_)
  · have h0 : M.1 43 11 < M.1 1 14 := by assumption
    rw [h11, h14, nI_ltI (by omega) (by omega)] at h0
    rw [xsI_1, if_pos rfl, upd_s, h11, nI_1, show (nI (t + 1) - 1 : Int32) = nI t from nI_pred t]
    exact vp_in_nI (N := 200) (by omega) (by decide)
  · have h0 : M.1 43 11 < M.1 1 14 := by assumption
    rw [h11, h14, nI_ltI (by omega) (by omega)] at h0
    refine xF_iret o_Ma_takeInput rfl rfl ?_
    have e15 : ∀ F, (xsI M 43 F).1 15 = M.1 15 := fun F => rfl
    rw [if_pos h0, if_pos h0, e15, xsI_s, upd_s, h11, nI_1, show (nI (t + 1) - 1 : Int32) = nI t from nI_pred t, nI_clamp (by omega)]
    exact ⟨rfl, rfl⟩
  · have h0 : ¬ M.1 43 11 < M.1 1 14 := by assumption
    rw [h11, h14, nI_ltI (by omega) (by omega)] at h0
    refine xF_iret o_Ma_takeInput rfl rfl ?_
    rw [if_neg h0, if_neg h0]
    refine ⟨rfl, (xsI_id (fun i => ?_)).symm⟩
    unfold upd
    by_cases e : i = 11
    · rw [if_pos e, e, h11]
    · rw [if_neg e]
theorem E_openFunction (d : Nat) (hd : d ≤ 16) (h0 : 1 ≤ d) (f : Int32) (M : xMe) (h8 : M.1 43 8 = nI d) : xE l G y_Ma_openFunction [.ref 43, .int f] M (fun v M' => (d = 16 ∧ v = some (.int 3) ∧ M' = M) ∨ (d < 16 ∧ v = some (.int (-1)) ∧ M' = xsI (xsI (xsI M 47 (upd (M.1 47) d (M.1 43 9))) 48 (upd (M.1 48) d (M.1 43 10 + 1))) 43 (upd (upd (upd (M.1 43) 8 (nI (d + 1))) 9 f) 10 0))) := by
  refine xE_of [some (.ref 43), some (.int f)] (by decide +kernel) (Nat.le_of_ble_eq_true rfl) rfl ?_
  refine xF_go o_Ma_openFunction [] 60 (fun K hK => ?_)
  repeat' ((conv => whnf); first | refine ⟨fun h => ?_, fun h => ?_⟩ | refine ⟨?_, ?_⟩ | refine hK _ _ _ _ ?_)
  · have hq : ¬ M.1 43 8 = nI 16 := by assumption
    rw [h8] at hq
    have hlt : d < 16 := by
      have : d ≠ 16 := fun z => hq (by rw [z])
      omega
    rw [h8]
    exact vp_in_nI hlt (by decide)
  · have hq : ¬ M.1 43 8 = nI 16 := by assumption
    rw [h8] at hq
    have hlt : d < 16 := by
      have : d ≠ 16 := fun z => hq (by rw [z])
      omega
    have e43 : ∀ F, (xsI M 47 F).1 43 = M.1 43 := fun F => rfl
    rw [e43, h8]
    exact vp_in_nI hlt (by decide)
  · have hq : ¬ M.1 43 8 = nI 16 := by assumption
    rw [h8] at hq
    have hlt : d < 16 := by
      have : d ≠ 16 := fun z => hq (by rw [z])
      omega
    refine xF_iret o_Ma_openFunction rfl rfl ?_
    refine Or.inr ⟨hlt, rfl, ?_⟩
    have e43 : ∀ F F', (xsI (xsI M 47 F) 48 F').1 43 = M.1 43 := fun F F' => rfl
    have e43' : ∀ F, (xsI M 47 F).1 43 = M.1 43 := fun F => rfl
    have e48 : ∀ F, (xsI M 47 F).1 48 = M.1 48 := fun F => rfl
    simp only [xsI_II, xsI_s, e43, e43', e48, h8, nI_1]
    rw [nI_clamp (by omega)]
  · have hq : M.1 43 8 = nI 16 := by assumption
    rw [h8] at hq
    refine xF_iret o_Ma_openFunction rfl rfl ?_
    exact Or.inl ⟨nI_inj (by omega) (by omega) hq, rfl, rfl⟩
theorem E_leave (d : Nat) (hd : d ≤ 16) (h1 : 2 ≤ d) (M : xMe) (h8 : M.1 43 8 = nI d) : xE l G y_Ma_leave [.ref 43] M (fun v M' => v = none ∧ M' = xsI M 43 (upd (upd (upd (M.1 43) 8 (nI (d - 1))) 9 (M.1 47 (d - 1))) 10 (M.1 48 (d - 1)))) := by
  have e8 : (nI d - 1 : Int32) = nI (d - 1) := pk_sub (b := 1) (by omega)
  refine xE_of [some (.ref 43)] (by decide +kernel) (Nat.le_of_ble_eq_true rfl) rfl ?_
  refine xF_go o_Ma_leave [] 60 (fun K hK => ?_)
  repeat' ((conv => whnf); first | refine ⟨fun h => ?_, fun h => ?_⟩ | refine ⟨?_, ?_⟩ | refine hK _ _ _ _ ?_)
  · rw [xsI_s, upd_s, h8, e8]
    exact vp_in_nI (N := 16) (by omega) (by decide)
  · rw [xsI_s, xsI_s, upd_n (by decide), upd_s, h8, e8]
    exact vp_in_nI (N := 16) (by omega) (by decide)
  · refine xF_vret o_Ma_leave rfl rfl ?_
    refine ⟨rfl, ?_⟩
    have e47 : ∀ F, (xsI M 43 F).1 47 = M.1 47 := fun F => rfl
    have e48 : ∀ F, (xsI M 43 F).1 48 = M.1 48 := fun F => rfl
    simp only [xsI_II, xsI_s, e47, e48, h8, e8, upd_s]
    rw [upd_n (by decide), upd_s, nI_clamp (by omega)]
theorem E_standAsOne (k o : Nat) (hk : k < 24) (ho : o < 24) (M : xMe) : xE l G y_Ma_standAsOne [.ref 43, .int (nI k), .int (nI o)] M (fun v M' => M' = M ∧ ∃ b, v = some (.int (b2 b)) ∧ (b = true ↔ k = o ∨ (¬ M.1 45 k = -1 ∧ M.1 45 k = M.1 45 o))) := by
  refine xE_of [some (.ref 43), some (.int (nI k)), some (.int (nI o))] (by decide +kernel) (Nat.le_of_ble_eq_true rfl) rfl ?_
  refine xF_go o_Ma_standAsOne [] 60 (fun K hK => ?_)
  repeat' ((conv => whnf); first | refine ⟨fun h => ?_, fun h => ?_⟩ | refine ⟨?_, ?_⟩ | refine hK _ _ _ _ ?_)
  · have e : nI k = nI o := by assumption
    refine xF_zret o_Ma_standAsOne rfl rfl (Or.inr rfl) ?_
    exact ⟨rfl, true, rfl, by simp [nI_inj (by omega) (by omega) e]⟩
  · exact vp_in_nI hk (by decide)
  · have e : ¬ nI k = nI o := by assumption
    have e2 : M.1 45 (nI k).toNatClampNeg = -1 := by assumption
    rw [nI_clamp (by omega)] at e2
    have e3 : k ≠ o := fun z => e (by rw [z])
    refine xF_zret o_Ma_standAsOne rfl rfl (Or.inl rfl) ?_
    exact ⟨rfl, false, rfl, by simp [e2, e3]⟩
  · exact vp_in_nI hk (by decide)
  · exact vp_in_nI ho (by decide)
  · have e : ¬ nI k = nI o := by assumption
    have e2 : ¬ M.1 45 (nI k).toNatClampNeg = M.1 45 (nI o).toNatClampNeg := by assumption
    rw [nI_clamp (by omega), nI_clamp (by omega)] at e2
    have e3 : k ≠ o := fun z => e (by rw [z])
    refine xF_zret o_Ma_standAsOne rfl rfl (Or.inl rfl) ?_
    exact ⟨rfl, false, rfl, by simp [e2, e3]⟩
  · have e : ¬ M.1 45 (nI k).toNatClampNeg = -1 := by assumption
    have e2 : M.1 45 (nI k).toNatClampNeg = M.1 45 (nI o).toNatClampNeg := by assumption
    rw [nI_clamp (by omega)] at e e2
    rw [nI_clamp (by omega)] at e2
    refine xF_zret o_Ma_standAsOne rfl rfl (Or.inr rfl) ?_
    exact ⟨rfl, true, rfl, by simp [e, e2]; right; rw [← e2]; exact e⟩
theorem E_begin (e : Int32) (M : xMe) : xE l G y_Ma_begin [.ref 43, .int e] M (fun v M' => v = none ∧ ∃ F, M' = xsI (xsI M 46 (fun i => if i < 4 then 0 else M.1 46 i)) 43 F ∧ F 7 = 1 ∧ F 8 = 1 ∧ F 9 = e ∧ F 10 = 0 ∧ F 11 = 0 ∧ F 12 = 0 ∧ F 13 = 0) := by
  refine xE_of [some (.ref 43), some (.int e)] (by decide +kernel) (Nat.le_of_ble_eq_true rfl) rfl ?_
  refine xF_go o_Ma_begin [] 60 (fun K hK => ?_)
  repeat' ((conv => whnf); first | refine ⟨fun h => ?_, fun h => ?_⟩ | refine ⟨?_, ?_⟩ | refine hK _ _ _ _ ?_)
  refine xF_callS o_Ma_begin [.ref 46, .int 0] rfl z_JA_fill1 s_JA_fill1 l_Ma_96 rfl ⟨⟨by decide, by decide⟩, rfl, rfl⟩ (Nat.le_of_ble_eq_true rfl) rfl (E_fill1 l G 46 (by simp) 0 M) ?_
  rintro v M' ⟨rfl, rfl⟩
  clear hK K
  refine xF_go o_Ma_begin [] 60 (fun K hK => ?_)
  repeat' ((conv => whnf); first | refine ⟨fun h => ?_, fun h => ?_⟩ | refine ⟨?_, ?_⟩ | refine hK _ _ _ _ ?_)
  · exact Or.inr rfl
  · refine xF_vret o_Ma_begin rfl rfl ?_
    simp only [xsI_II, xsI_s]
    exact ⟨trivial, _, rfl, rfl, rfl, rfl, rfl, rfl, rfl, rfl⟩
end XMA
end
section
/-! Machine: loads, stores, follows; memory taken -/
/-- where the items stand -/
def cH (P : sP) (hm : Nat → Option Nat) (M : xMe) : Prop := ∀ k, k < 24 → M.1 45 k = oI (hm k) ∧ ∀ a, hm k = some a → a + pS P k ≤ 1728 ∧ a < 1728
theorem oI_no {hm : Option Nat} (h : ∀ a, hm = some a → a < 1728) : oI hm = -1 ↔ hm = none := by
  cases hm with
  | none => exact ⟨fun _ => rfl, fun _ => rfl⟩
  | some j =>
    refine ⟨fun e => ?_, fun e => by cases e⟩
    have h1 := h j rfl
    have h2 : nI j = -1 := e
    exact absurd (h2 ▸ nI_pos' (n := j) (by omega)) (by decide)
section XMB
variable (l : Launch) (G : xG)
def mPut (M : xMe) (r : Nat) (x : Int32) : xMe := xsI (xsI M 46 (upd (M.1 46) r x)) 43 (upd (M.1 43) 10 (M.1 43 10 + 1))
theorem E_load (P : sP) (hm : Nat → Option Nat) (M : xMe) (hM : cS P M) (hw : wP P) (hH : cH P hm M) (r k w : Nat) (hr : r < 4) (hk : k < 24) (hw2 : w < 2 ^ 20) : xE l G y_Ma_load [.ref 43, .int (nI r), .int (nI k), .int (nI w)] M (fun v M' => (¬ (w < pS P k ∧ (hm k).isSome) ∧ v = some (.int 1) ∧ M' = M) ∨ (w < pS P k ∧ ∃ a, hm k = some a ∧ v = some (.int (-1)) ∧ M' = mPut M r (M.1 44 (a + w)))) := by
  obtain ⟨hh, hh2⟩ := hH k hk
  have hcl : (nI k).toNatClampNeg = k := nI_clamp (by omega)
  refine xE_of [some (.ref 43), some (.int (nI r)), some (.int (nI k)), some (.int (nI w))] (by decide +kernel) (Nat.le_of_ble_eq_true rfl) rfl ?_
  refine xF_go o_Ma_load [] 60 (fun K hK => ?_)
  repeat' ((conv => whnf); first | refine ⟨fun h => ?_, fun h => ?_⟩ | refine ⟨?_, ?_⟩ | refine hK _ _ _ _ ?_)
  refine xF_callV o_Ma_load [.int (nI k), .int (nI w)] rfl z_Pr_hasPlace i_Pr_hasPlace v_Pr_hasPlace l_Ma_154 rfl ⟨⟨by decide, by decide⟩, rfl, rfl⟩ (Nat.le_of_ble_eq_true rfl) rfl rfl rfl (E_hasPlace l G P M hM hw (nI k) (nI w)) ?_
  rintro v M1 ⟨rfl, b, rfl, hb⟩
  clear hK K
  have hb' : b = true ↔ w < pS P k := by
    rw [hb]
    constructor
    · rintro ⟨j, q, c1, c2, c3, c4⟩
      have e1 := nI_inj (by omega) (by omega) c2
      subst e1
      have hs := (hw.1 k hk).1
      have e2 := nI_inj (by omega) (by omega) c4
      omega
    · intro h
      exact ⟨k, w, hk, rfl, h, rfl⟩
  cases b with
  | false =>
    have hnot : ¬ w < pS P k := fun z => by cases hb'.mpr z
    refine xF_go o_Ma_load [] 60 (fun K hK => ?_)
    repeat' ((conv => whnf); first | refine ⟨fun h => ?_, fun h => ?_⟩ | refine ⟨?_, ?_⟩ | refine hK _ _ _ _ ?_)
    · refine xF_iret o_Ma_load rfl rfl ?_
      exact Or.inl ⟨fun z => hnot z.1, rfl, rfl⟩
    all_goals exact absurd rfl (show ¬ (b2 false) = 0 from by assumption)
  | true =>
    have hlt := hb'.mp rfl
    refine xF_go o_Ma_load [] 60 (fun K hK => ?_)
    repeat' ((conv => whnf); first | refine ⟨fun h => ?_, fun h => ?_⟩ | refine ⟨?_, ?_⟩ | refine hK _ _ _ _ ?_)
    · exact absurd h (by decide)
    · exact vp_in_nI hk (by decide)
    · exact vp_in_nI hk (by decide)
    · have hq : ¬ M1.1 45 (nI k).toNatClampNeg = -1 := by assumption
      rw [hcl, hh, oI_no (fun a ha => (hh2 a ha).2)] at hq
      rw [hcl, hh]
      cases hs : hm k with
      | none => exact absurd hs hq
      | some a =>
        have := (hh2 a hs).1
        show vp_in (nI a + nI w) 1728
        rw [nI_add]
        exact vp_in_nI (by omega) (by decide)
    · have hq : ¬ M1.1 45 (nI k).toNatClampNeg = -1 := by assumption
      rw [hcl, hh, oI_no (fun a ha => (hh2 a ha).2)] at hq
      rw [hcl, hh]
      cases hs : hm k with
      | none => exact absurd hs hq
      | some a =>
        have h1728 := (hh2 a hs).1
        have ea : (oI (some a) + nI w).toNatClampNeg = a + w := by
          show (nI a + nI w).toNatClampNeg = _
          rw [nI_add, nI_clamp (by omega)]
        rw [ea]
        refine xF_callV o_Ma_load [.int (nI r), .int (M1.1 44 (a + w))] rfl z_Ma_put i_Ma_put v_Ma_put l_Ma_117 rfl ⟨⟨by decide, by decide⟩, rfl, rfl⟩ (Nat.le_of_ble_eq_true rfl) rfl rfl rfl (E_put l G r hr (M1.1 44 (a + w)) M1) ?_
        rintro v M2 ⟨rfl, rfl⟩
        clear hK K
        refine xF_go o_Ma_load [] 60 (fun K hK => ?_)
        repeat' ((conv => whnf); first | refine ⟨fun h => ?_, fun h => ?_⟩ | refine ⟨?_, ?_⟩ | refine hK _ _ _ _ ?_)
        refine xF_iret o_Ma_load rfl rfl ?_
        exact Or.inr ⟨hlt, a, rfl, rfl, rfl⟩
    · have hq : M1.1 45 (nI k).toNatClampNeg = -1 := by assumption
      rw [hcl, hh, oI_no (fun a ha => (hh2 a ha).2)] at hq
      refine xF_iret o_Ma_load rfl rfl ?_
      exact Or.inl ⟨fun z => by rw [hq] at z; simp at z, rfl, rfl⟩
theorem E_store (P : sP) (hm : Nat → Option Nat) (M : xMe) (hM : cS P M) (hw : wP P) (hH : cH P hm M) (k w : Nat) (x : Int32) (hk : k < 24) (hw2 : w < 2 ^ 20) : xE l G y_Ma_store [.ref 43, .int (nI k), .int (nI w), .int x] M (fun v M' => (¬ w < pS P k ∧ v = some (.int 1) ∧ M' = M) ∨ (w < pS P k ∧ v = some (.int (-1)) ∧ M' = xsI (match hm k with | some a => xsI M 44 (upd (M.1 44) (a + w) x) | none => M) 43 (upd (M.1 43) 10 (M.1 43 10 + 1)))) := by
  obtain ⟨hh, hh2⟩ := hH k hk
  have hcl : (nI k).toNatClampNeg = k := nI_clamp (by omega)
  refine xE_of [some (.ref 43), some (.int (nI k)), some (.int (nI w)), some (.int x)] (by decide +kernel) (Nat.le_of_ble_eq_true rfl) rfl ?_
  refine xF_go o_Ma_store [] 60 (fun K hK => ?_)
  repeat' ((conv => whnf); first | refine ⟨fun h => ?_, fun h => ?_⟩ | refine ⟨?_, ?_⟩ | refine hK _ _ _ _ ?_)
  refine xF_callV o_Ma_store [.int (nI k), .int (nI w)] rfl z_Pr_hasPlace i_Pr_hasPlace v_Pr_hasPlace l_Ma_154 rfl ⟨⟨by decide, by decide⟩, rfl, rfl⟩ (Nat.le_of_ble_eq_true rfl) rfl rfl rfl (E_hasPlace l G P M hM hw (nI k) (nI w)) ?_
  rintro v M1 ⟨rfl, b, rfl, hb⟩
  clear hK K
  have hb' : b = true ↔ w < pS P k := by
    rw [hb]
    constructor
    · rintro ⟨j, q, c1, c2, c3, c4⟩
      have e1 := nI_inj (by omega) (by omega) c2
      subst e1
      have hs := (hw.1 k hk).1
      have e2 := nI_inj (by omega) (by omega) c4
      omega
    · intro h
      exact ⟨k, w, hk, rfl, h, rfl⟩
  cases b with
  | false =>
    have hnot : ¬ w < pS P k := fun z => by cases hb'.mpr z
    refine xF_go o_Ma_store [] 60 (fun K hK => ?_)
    repeat' ((conv => whnf); first | refine ⟨fun h => ?_, fun h => ?_⟩ | refine ⟨?_, ?_⟩ | refine hK _ _ _ _ ?_)
    all_goals first | exact absurd rfl (show ¬ (b2 false) = 0 from by assumption) | skip
    refine xF_iret o_Ma_store rfl rfl ?_
    exact Or.inl ⟨hnot, rfl, rfl⟩
  | true =>
    have hlt := hb'.mp rfl
    refine xF_go o_Ma_store [] 60 (fun K hK => ?_)
    repeat' ((conv => whnf); first | refine ⟨fun h => ?_, fun h => ?_⟩ | refine ⟨?_, ?_⟩ | refine hK _ _ _ _ ?_)
    · exact vp_in_nI hk (by decide)
    · have hq : M1.1 45 (nI k).toNatClampNeg = -1 := by assumption
      rw [hcl, hh, oI_no (fun a ha => (hh2 a ha).2)] at hq
      refine xF_iret o_Ma_store rfl rfl ?_
      rw [hq]
      exact Or.inr ⟨hlt, rfl, rfl⟩
    · exact vp_in_nI hk (by decide)
    · have hq : ¬ M1.1 45 (nI k).toNatClampNeg = -1 := by assumption
      rw [hcl, hh, oI_no (fun a ha => (hh2 a ha).2)] at hq
      rw [hcl, hh]
      cases hs : hm k with
      | none => exact absurd hs hq
      | some a =>
        have := (hh2 a hs).1
        show vp_in (nI a + nI w) 1728
        rw [nI_add]
        exact vp_in_nI (by omega) (by decide)
    · have hq : ¬ M1.1 45 (nI k).toNatClampNeg = -1 := by assumption
      rw [hcl, hh, oI_no (fun a ha => (hh2 a ha).2)] at hq
      rw [hcl, hh]
      cases hs : hm k with
      | none => exact absurd hs hq
      | some a =>
        have h1728 := (hh2 a hs).1
        have ea : (oI (some a) + nI w).toNatClampNeg = a + w := by
          show (nI a + nI w).toNatClampNeg = _
          rw [nI_add, nI_clamp (by omega)]
        rw [ea]
        refine xF_iret o_Ma_store rfl rfl ?_
        exact Or.inr ⟨hlt, rfl, rfl⟩
    · exact absurd (show b2 true = 0 from by assumption) (by decide)
end XMB
end
section
/-! Machine: follows; memory taken as told and as laid -/
theorem xF_copyi {l : Launch} {G : xG} {Y : xMD} {k : xK} {all : List xRw} {pc : Nat} {lv : xLv} {r : List Value} {M : xMe} {Q : Option Value → xMe → Prop} {i k0 k1 : Nat} {sp dp n : Int32} (ok : xOK Y k all) (hi : xat all pc = some (.invokestatic i)) (ha : xAC Y.1.cls i) (hk0 : xkd k0 = 0) (hk1 : xkd k1 = 0) (h0 : k0 < 96) (h1 : k1 < 96) (a b c : Nat) (hsp : sp = nI a) (hdp : dp = nI b) (hn : n = nI c) (hs : a + c ≤ xtl k0) (hdd : b + c ≤ xtl k1) (hz : a < 2 ^ 31 ∧ b < 2 ^ 31 ∧ c < 2 ^ 31) (hr : (r.map fun v => v.category).sum ≤ 8) (hrm : 1 ≤ (yR Y).frames ∧ 26 ≤ (yR Y).locals) (h : xF l G Y (pc + 3) lv r (xsI M k1 (va_cpy (M.1 k0) (M.1 k1) a b c)) Q) : xF l G Y pc lv (.int n :: .int dp :: .ref k1 :: .int sp :: .ref k0 :: r) M Q := by
  subst hsp; subst hdp; subst hn
  refine xc_copyi (g := none) ha hk0 hk1 h0 h1 h0 h1 (nI_pos hz.1) (nI_pos hz.2.1) (nI_pos hz.2.2) ?_ ?_ hr hrm (xat_dec ok hi rfl) ?_
  · rw [nI_clamp hz.1, nI_clamp hz.2.2]; exact hs
  · rw [nI_clamp hz.2.1, nI_clamp hz.2.2]; exact hdd
  · rw [nI_clamp hz.1, nI_clamp hz.2.1, nI_clamp hz.2.2]; exact h
set_option maxRecDepth 20000 in
theorem ac_Ma : xAC y_Ma_takeAsTold.1.cls 39 := ⟨xtbm (List.mem_of_getElem? (i := 497) rfl) rfl, xtbm (List.mem_of_getElem? (i := 499) rfl) rfl, xtbm (List.mem_of_getElem? (i := 498) rfl) rfl, xtbm (List.mem_of_getElem? (i := 92) rfl) rfl⟩
section XMC
variable (l : Launch) (G : xG)
theorem L_takeAsTold (M0 : xMe) (Q : Option Value → xMe → Prop) (hnext : xF l G y_Ma_takeAsTold 24 [some (.ref 43), some (.int (nI 24))] [] (xsI M0 45 (fun i => if i < 24 then nI (i * 64) else M0.1 45 i)) Q) : ∀ (m k : Nat), m + k = 24 → xF l G y_Ma_takeAsTold 2 [some (.ref 43), some (.int (nI k))] [] (xsI M0 45 (fun i => if i < k then nI (i * 64) else M0.1 45 i)) Q := by
  intro m
  induction m with
  | zero =>
    intro k hk
    refine xF_go o_Ma_takeAsTold [2, 24] 60 (fun K hK => ?_)
    repeat' ((conv => whnf); first | refine ⟨fun h => ?_, fun h => ?_⟩ | refine ⟨?_, ?_⟩ | refine hK _ _ _ _ ?_)
    · have e : k = 24 := by omega
      subst e
      exact hnext
    all_goals exact absurd (show nI k < nI 24 from by assumption) (nI_nlt (by omega) (by omega))
  | succ m ih =>
    intro k hk
    refine xF_go o_Ma_takeAsTold [2, 24] 60 (fun K hK => ?_)
    repeat' ((conv => whnf); first | refine ⟨fun h => ?_, fun h => ?_⟩ | refine ⟨?_, ?_⟩ | refine hK _ _ _ _ ?_)
    · exact absurd (nI_lt (b := 24) (by omega) (by omega)) h
    · exact vp_in_nI (N := 24) (by omega) (by decide)
    · rw [nI_1, nI_clamp (by omega), nI_16, xsI_II, xsI_s]
      have e := ih (k + 1) (by omega)
      rw [xsI_c (g := upd (fun i => if i < k then nI (i * 64) else M0.1 45 i) k (nI (k * 64)))] at e
      · exact e
      · intro i
        unfold upd
        grind
theorem E_takeAsTold (M : xMe) : xE l G y_Ma_takeAsTold [.ref 43] M (fun v M' => v = none ∧ (∀ k, k < 24 → M'.1 45 k = nI (k * 64)) ∧ (∀ i, i < 1536 → M'.1 44 i = M.1 6 i) ∧ xfr [44, 45] M M') := by
  refine xE_of [some (.ref 43), none] (by decide +kernel) (Nat.le_of_ble_eq_true rfl) rfl ?_
  refine xF_go o_Ma_takeAsTold [2] 60 (fun K hK => ?_)
  repeat' ((conv => whnf); first | refine ⟨fun h => ?_, fun h => ?_⟩ | refine ⟨?_, ?_⟩ | refine hK _ _ _ _ ?_)
  have e0 : M = xsI M 45 (fun i => if i < 0 then nI (i * 64) else M.1 45 i) := (xsI_id (fun i => by rw [if_neg (by omega)])).symm
  have key := L_takeAsTold l G M (fun v M' => v = none ∧ (∀ k, k < 24 → M'.1 45 k = nI (k * 64)) ∧ (∀ i, i < 1536 → M'.1 44 i = M.1 6 i) ∧ xfr [44, 45] M M') ?_ 24 0 (by omega)
  · rw [← e0] at key
    exact key
  · clear hK K
    refine xF_go o_Ma_takeAsTold [] 60 (fun K hK => ?_)
    repeat' ((conv => whnf); first | refine ⟨fun h => ?_, fun h => ?_⟩ | refine ⟨?_, ?_⟩ | refine hK _ _ _ _ ?_)
    refine xF_copyi o_Ma_takeAsTold rfl ac_Ma rfl rfl (by decide) (by decide) 0 0 1536 rfl rfl rfl (by decide) (by decide) (by decide) (Nat.le_of_ble_eq_true rfl) (by decide) ?_
    clear hK K
    refine xF_go o_Ma_takeAsTold [] 60 (fun K hK => ?_)
    repeat' ((conv => whnf); first | refine ⟨fun h => ?_, fun h => ?_⟩ | refine ⟨?_, ?_⟩ | refine hK _ _ _ _ ?_)
    refine xF_vret o_Ma_takeAsTold rfl rfl ?_
    refine ⟨rfl, fun k hk => ?_, fun i hi => ?_, (xfr.rf.I (by simp)).I (by simp)⟩
    · show (if k < 24 then nI (k * 64) else M.1 45 k) = _
      rw [if_pos hk]
    · rw [xsI_s]
      unfold va_cpy
      rw [if_pos (by omega)]
      show M.1 6 (0 + (i - 0)) = _
      rw [show 0 + (i - 0) = i by omega]
theorem E_takeAsLaid (M : xMe) : xE l G y_Ma_takeAsLaid [.ref 43, .ref 30] M (fun v M' => v = none ∧ (∀ k, k < 24 → M'.1 45 k = M.1 40 k) ∧ (∀ i, i < 1728 → M'.1 44 i = M.1 42 i) ∧ xfr [44, 45] M M') := by
  refine xE_of [some (.ref 43), some (.ref 30)] (by decide +kernel) (Nat.le_of_ble_eq_true rfl) rfl ?_
  refine xF_go o_Ma_takeAsLaid [] 60 (fun K hK => ?_)
  repeat' ((conv => whnf); first | refine ⟨fun h => ?_, fun h => ?_⟩ | refine ⟨?_, ?_⟩ | refine hK _ _ _ _ ?_)
  refine xF_copyi o_Ma_takeAsLaid rfl ac_Ma rfl rfl (by decide) (by decide) 0 0 24 rfl rfl rfl (by decide) (by decide) (by decide) (Nat.le_of_ble_eq_true rfl) (by decide) ?_
  clear hK K
  refine xF_go o_Ma_takeAsLaid [] 60 (fun K hK => ?_)
  repeat' ((conv => whnf); first | refine ⟨fun h => ?_, fun h => ?_⟩ | refine ⟨?_, ?_⟩ | refine hK _ _ _ _ ?_)
  refine xF_copyi o_Ma_takeAsLaid rfl ac_Ma rfl rfl (by decide) (by decide) 0 0 1728 rfl rfl rfl (by decide) (by decide) (by decide) (Nat.le_of_ble_eq_true rfl) (by decide) ?_
  clear hK K
  refine xF_go o_Ma_takeAsLaid [] 60 (fun K hK => ?_)
  repeat' ((conv => whnf); first | refine ⟨fun h => ?_, fun h => ?_⟩ | refine ⟨?_, ?_⟩ | refine hK _ _ _ _ ?_)
  refine xF_vret o_Ma_takeAsLaid rfl rfl ?_
  refine ⟨rfl, fun k hk => ?_, fun i hi => ?_, (xfr.rf.I (by simp)).I (by simp)⟩
  · show va_cpy (M.1 40) (M.1 45) 0 0 24 k = _
    unfold va_cpy
    rw [if_pos (by omega), show 0 + (k - 0) = k by omega]
  · rw [xsI_s]
    unfold va_cpy
    rw [if_pos (by omega)]
    show M.1 42 (0 + (i - 0)) = _
    rw [show 0 + (i - 0) = i by omega]
theorem E_follow (P : sP) (hm : Nat → Option Nat) (M : xMe) (hM : cP P M) (hw : wP P) (hH : cH P hm M) (r k w : Nat) (hr : r < 4) (hk : k < 24) (hw2 : w < 2 ^ 20) : xE l G y_Ma_follow [.ref 43, .int (nI r), .int (nI k), .int (nI w)] M (fun v M' => ((∀ t, w < pS P k → pR P k w = some t → hm t = none) ∧ v = some (.int 1) ∧ M' = M) ∨ (w < pS P k ∧ ∃ t a, pR P k w = some t ∧ hm t = some a ∧ v = some (.int (-1)) ∧ M' = mPut M r (M.1 44 (a + 0)))) := by
  have hs := (hw.1 k hk).1
  refine xE_of [some (.ref 43), some (.int (nI r)), some (.int (nI k)), some (.int (nI w))] (by decide +kernel) (Nat.le_of_ble_eq_true rfl) rfl ?_
  refine xF_go o_Ma_follow [] 60 (fun K hK => ?_)
  repeat' ((conv => whnf); first | refine ⟨fun h => ?_, fun h => ?_⟩ | refine ⟨?_, ?_⟩ | refine hK _ _ _ _ ?_)
  refine xF_callV o_Ma_follow [.int (nI k), .int (nI w)] rfl z_Pr_hasPlace i_Pr_hasPlace v_Pr_hasPlace l_Ma_154 rfl ⟨⟨by decide, by decide⟩, rfl, rfl⟩ (Nat.le_of_ble_eq_true rfl) rfl rfl rfl (E_hasPlace l G P M hM.1 hw (nI k) (nI w)) ?_
  rintro v M1 ⟨rfl, b, rfl, hb⟩
  clear hK K
  have hb' : b = true ↔ w < pS P k := by
    rw [hb]
    constructor
    · rintro ⟨j, q, c1, c2, c3, c4⟩
      have e1 := nI_inj (by omega) (by omega) c2
      subst e1
      have e2 := nI_inj (by omega) (by omega) c4
      omega
    · intro h
      exact ⟨k, w, hk, rfl, h, rfl⟩
  cases b with
  | false =>
    have hnot : ¬ w < pS P k := fun z => by cases hb'.mpr z
    refine xF_go o_Ma_follow [] 60 (fun K hK => ?_)
    repeat' ((conv => whnf); first | refine ⟨fun h => ?_, fun h => ?_⟩ | refine ⟨?_, ?_⟩ | refine hK _ _ _ _ ?_)
    · refine xF_iret o_Ma_follow rfl rfl ?_
      exact Or.inl ⟨fun t z => absurd z hnot, rfl, rfl⟩
    all_goals exact absurd rfl (show ¬ (b2 false) = 0 from by assumption)
  | true =>
    have hlt := hb'.mp rfl
    refine xF_go o_Ma_follow [] 60 (fun K hK => ?_)
    repeat' ((conv => whnf); first | refine ⟨fun h => ?_, fun h => ?_⟩ | refine ⟨?_, ?_⟩ | refine hK _ _ _ _ ?_)
    · exact absurd h (by decide)
    · refine xF_callV o_Ma_follow [.int (nI k), .int (nI w)] rfl z_Pr_hasReference i_Pr_hasReference v_Pr_hasReference l_Ma_163 rfl ⟨⟨by decide, by decide⟩, rfl, rfl⟩ (Nat.le_of_ble_eq_true rfl) rfl rfl rfl (E_hasReference l G P M1 hM.2.2.1 k w hk (by omega)) ?_
      rintro v M ⟨rfl, rfl⟩
      clear hK K
      cases hr0 : pR P k w with
      | none =>
        refine xF_go o_Ma_follow [] 60 (fun K hK => ?_)
        repeat' ((conv => whnf); first | refine ⟨fun h => ?_, fun h => ?_⟩ | refine ⟨?_, ?_⟩ | refine hK _ _ _ _ ?_)
        all_goals first | exact absurd rfl (show ¬ (b2 (none : Option Nat).isSome) = 0 from by assumption) | skip
        refine xF_iret o_Ma_follow rfl rfl ?_
        exact Or.inl ⟨(fun t _ z => by cases z), rfl, rfl⟩
      | some t =>
        have ht := hw.2.2.1 k hk w (by omega) t hr0
        have ht7 := (hM.2.2.1 k hk w (by omega)).2 t hr0
        refine xF_go o_Ma_follow [] 60 (fun K hK => ?_)
        repeat' ((conv => whnf); first | refine ⟨fun h => ?_, fun h => ?_⟩ | refine ⟨?_, ?_⟩ | refine hK _ _ _ _ ?_)
        · rw [nI_16, nI_add]
          exact vp_in_nI (N := 1536) (by omega) (by decide)
        · rw [nI_16, nI_add, nI_clamp (by omega), ht7]
          refine xF_callV o_Ma_follow [.int (nI r), .int (nI t), .int 0] rfl z_Ma_load i_Ma_load v_Ma_load l_Ma_123 rfl ⟨⟨by decide, by decide⟩, rfl, rfl⟩ (Nat.le_of_ble_eq_true rfl) rfl rfl rfl (E_load l G P hm M hM.1 hw hH r t 0 hr ht.1 (by decide)) ?_
          rintro v M2 (⟨c1, rfl, rfl⟩ | ⟨c1, a, c2, rfl, rfl⟩)
          · clear hK K
            refine xF_go o_Ma_follow [] 60 (fun K hK => ?_)
            repeat' ((conv => whnf); first | refine ⟨fun h => ?_, fun h => ?_⟩ | refine ⟨?_, ?_⟩ | refine hK _ _ _ _ ?_)
            refine xF_iret o_Ma_follow rfl rfl ?_
            refine Or.inl ⟨fun t' _ z => ?_, rfl, rfl⟩
            cases z
            cases ha : hm t with
            | none => rfl
            | some a => exact absurd ⟨ht.2.2, by rw [ha]; rfl⟩ c1
          · clear hK K
            refine xF_go o_Ma_follow [] 60 (fun K hK => ?_)
            repeat' ((conv => whnf); first | refine ⟨fun h => ?_, fun h => ?_⟩ | refine ⟨?_, ?_⟩ | refine hK _ _ _ _ ?_)
            refine xF_iret o_Ma_follow rfl rfl ?_
            exact Or.inr ⟨hlt, t, a, rfl, c2, rfl, rfl⟩
        · exact absurd (show b2 true = 0 from (by assumption : b2 (some t).isSome = 0)) (by decide)
end XMC
end
section
/-! Math.floorMod; small ones of the reference -/
def fmz (x y : Int32) : Int32 := if x ^^^ y < 0 ∧ ¬ (x - x / y * y) = 0 then x - x / y * y + y else x - x / y * y
theorem fmz_256 : ∀ n, n < 766 → fmz (nI n - 255) 256 = nI ((n + 1) % 256) := by decide +kernel
theorem and_255 : ∀ n, n < 766 → ((nI n - 255 + 256) &&& 255 : Int32) = nI ((n + 1) % 256) := by decide +kernel
section XFL
variable (l : Launch) (G : xG)
theorem E_floorMod (x y : Int32) (hy : ¬ y = 0) (M : xMe) : xE l G y_JM_floorMod [.int x, .int y] M (fun r M' => M' = M ∧ r = some (.int (fmz x y))) := by
  refine xE_of [some (.int x), some (.int y), none] (by decide +kernel) (Nat.le_of_ble_eq_true rfl) rfl ?_
  refine xF_go o_JM_floorMod [] 60 (fun K hK => ?_)
  repeat' ((conv => whnf); first | refine ⟨fun h => ?_, fun h => ?_⟩ | refine ⟨?_, ?_⟩ | refine hK _ _ _ _ ?_)
  · exact hy
  · refine xF_iret o_JM_floorMod rfl rfl ?_
    have h1 : ¬ x ^^^ y < 0 := by assumption
    unfold fmz
    rw [if_neg (fun z => h1 z.1)]
    exact ⟨rfl, rfl⟩
  · refine xF_iret o_JM_floorMod rfl rfl ?_
    have h1 : x - x / y * y = 0 := by assumption
    unfold fmz
    rw [if_neg (fun z => z.2 h1)]
    exact ⟨rfl, rfl⟩
  · refine xF_iret o_JM_floorMod rfl rfl ?_
    have h1 : x ^^^ y < 0 := by assumption
    have h2 : ¬ x - x / y * y = 0 := by assumption
    unfold fmz
    rw [if_pos ⟨h1, h2⟩]
    exact ⟨rfl, rfl⟩
theorem E_place (k : Nat) (hk : k < 24) (p : Int32) (M : xMe) : xE l G y_Mo_place [.ref 50, .int (nI k), .int p] M (fun r M' => M' = M ∧ r = some (.int (if M.1 50 25 = 0 then 64 * nI k + p else M.1 85 k + p))) := by
  refine xE_of [some (.ref 50), some (.int (nI k)), some (.int p)] (by decide +kernel) (Nat.le_of_ble_eq_true rfl) rfl ?_
  refine xF_go o_Mo_place [] 60 (fun K hK => ?_)
  repeat' ((conv => whnf); first | refine ⟨fun h => ?_, fun h => ?_⟩ | refine ⟨?_, ?_⟩ | refine hK _ _ _ _ ?_)
  · refine xF_iret o_Mo_place rfl rfl ?_
    have h1 : M.1 50 25 = 0 := by assumption
    rw [if_pos h1]
    exact ⟨rfl, rfl⟩
  · exact vp_in_nI hk (by decide)
  · refine xF_iret o_Mo_place rfl rfl ?_
    have h1 : ¬ M.1 50 25 = 0 := by assumption
    rw [if_neg h1, nI_clamp (by omega)]
    exact ⟨rfl, rfl⟩
end XFL
end
section
/-! sets of 0 to 255 in rows of longs: the smallest methods of both sides -/
def sHas (f : Nat → Int64) (at_ v : Nat) : Bool := xbit (f (at_ + v / 64)) (v % 64)
theorem xsar_bv (a : Int64) {p : Nat} (hp : p < 64) : (a >>> ((nI p).toInt64 &&& 63)).toBitVec = a.toBitVec.sshiftRight p := by
  rw [Int64.toBitVec_shiftRight]
  show a.toBitVec.sshiftRight (((nI p).toInt64 &&& 63).toBitVec.smod 64#64).toNat = _
  rw [xsar_all p hp]
theorem xbit_sar (a : Int64) {p q : Nat} (h : p + q < 64) : xbit (a >>> ((nI p).toInt64 &&& 63)) q = xbit a (p + q) := by
  unfold xbit
  rw [xsar_bv a (by omega), BitVec.getLsbD_sshiftRight]
  simp [show ¬ 64 ≤ q by omega, h]
/-- (x >> p & 1) == 1 -/
theorem xbit_test1 (a : Int64) {p : Nat} (hp : p < 64) : (a >>> ((nI p).toInt64 &&& 63)) &&& 1 = 1 ↔ xbit a p = true := by
  constructor
  · intro h
    have h1 : xbit ((a >>> ((nI p).toInt64 &&& 63)) &&& 1) 0 = xbit 1 0 := by rw [h]
    rw [xbit_and, xbit_sar a (by omega), xbit_one] at h1
    simpa using h1
  · intro h
    refine xbit_ext (fun q hq => ?_)
    rw [xbit_and, xbit_one]
    by_cases h0 : q = 0
    · subst h0
      rw [xbit_sar a (by omega)]
      simpa using h
    · simp [h0]
theorem d64 {v : Nat} (hv : v < 256) : (nI v / 64 : Int32) = nI (v / 64) := pk_div (a := v) (d := 64) (by omega) (by decide) (by decide)
theorem r64 {v : Nat} (hv : v < 256) : (nI v - nI v / 64 * 64 : Int32) = nI (v % 64) := pk_rem (a := v) (d := 64) (by omega) (by decide) (by decide)
theorem s64 : ∀ v, v < 256 → (nI v >>> (6 &&& 31) : Int32) = nI (v / 64) := by decide +kernel
theorem a63 : ∀ v, v < 256 → (nI v &&& 63 : Int32) = nI (v % 64) := by decide +kernel
section XST
variable (l : Launch) (G : xG)
theorem E_add (c : Nat) (hc : c = 22 ∨ c = 26) (t v : Nat) (hv : v < 256) (ht : t + v / 64 < xtl c) (M : xMe) : xE l G y_OS_add [.ref c, .int (nI t), .int (nI v)] M (fun r M' => r = none ∧ M' = xsL M c (vp_updL (M.2 c) (t + v / 64) (M.2 c (t + v / 64) ||| (1 : Int64) <<< ((nI (v % 64)).toInt64 &&& 63)))) := by
  have hlt : xtl c < 2 ^ 31 := by rcases hc with rfl | rfl <;> decide
  refine xE_of [some (.ref c), some (.int (nI t)), some (.int (nI v))] (by decide +kernel) (Nat.le_of_ble_eq_true rfl) rfl ?_
  refine xF_go o_OS_add [] 60 (fun K hK => ?_)
  have e64 : ¬ (64 : Int32) = 0 := by decide
  have eix : nI t + nI v / 64 = nI (t + v / 64) := by rw [d64 hv, nI_add]
  have key : ¬ (64 : Int32) = 0 ∧ vp_in (nI t + nI v / 64) (xtl c) ∧ ¬ (64 : Int32) = 0 ∧ vp_in (nI t + nI v / 64) (xtl c) ∧ K 17 [some (.ref c), some (.int (nI t)), some (.int (nI v))] [] (xsL M c (vp_updL (M.2 c) (nI t + nI v / 64).toNatClampNeg (M.2 c (nI t + nI v / 64).toNatClampNeg ||| (1 : Int64) <<< ((nI v - nI v / 64 * 64).toInt64 &&& 63)))) := by
    rw [r64 hv, eix, nI_clamp (by omega)]
    refine ⟨e64, vp_in_nI ht hlt, e64, vp_in_nI ht hlt, ?_⟩
    refine hK _ _ _ _ ?_
    refine xF_vret o_OS_add rfl rfl ?_
    exact ⟨rfl, rfl⟩
  rcases hc with rfl | rfl <;> exact key
theorem E_Mput (v : Nat) (hv : v < 256) (M : xMe) : xE l G y_Mo_put [.ref 50, .int (nI v)] M (fun r M' => r = none ∧ M' = xsL M 79 (vp_updL (M.2 79) (v / 64) (M.2 79 (v / 64) ||| (1 : Int64) <<< ((nI (v % 64)).toInt64 &&& 63)))) := by
  refine xE_of [some (.ref 50), some (.int (nI v))] (by decide +kernel) (Nat.le_of_ble_eq_true rfl) rfl ?_
  refine xF_go o_Mo_put [] 60 (fun K hK => ?_)
  repeat' ((conv => whnf); first | refine ⟨fun h => ?_, fun h => ?_⟩ | refine ⟨?_, ?_⟩ | refine hK _ _ _ _ ?_)
  · rw [s64 v hv]
    exact vp_in_nI (N := 4) (by omega) (by decide)
  · rw [s64 v hv]
    exact vp_in_nI (N := 4) (by omega) (by decide)
  · refine xF_vret o_Mo_put rfl rfl ?_
    rw [s64 v hv, a63 v hv, nI_clamp (by omega)]
    exact ⟨rfl, rfl⟩
theorem E_hasValue (c : Nat) (hc : c = 69 ∨ c = 78) (t v : Nat) (hv : v < 256) (ht : t + v / 64 < xtl c) (M : xMe) : xE l G y_Mo_hasValue [.ref 50, .ref c, .int (nI t), .int (nI v)] M (fun r M' => M' = M ∧ r = some (.int (b2 (sHas (M.2 c) t v)))) := by
  have hlt : xtl c < 2 ^ 31 := by rcases hc with rfl | rfl <;> decide
  refine xE_of [some (.ref 50), some (.ref c), some (.int (nI t)), some (.int (nI v))] (by decide +kernel) (Nat.le_of_ble_eq_true rfl) rfl ?_
  refine xF_go o_Mo_hasValue [17] 60 (fun K hK => ?_)
  have eix : nI t + (nI v >>> (6 &&& 31)) = nI (t + v / 64) := by rw [s64 v hv, nI_add]
  have key : vp_in (nI t + (nI v >>> (6 &&& 31))) (xtl c) ∧ K 17 [some (.ref 50), some (.ref c), some (.int (nI t)), some (.int (nI v))] [.int (lg_cmp ((M.2 c (nI t + (nI v >>> (6 &&& 31))).toNatClampNeg >>> ((nI v &&& 63).toInt64 &&& 63)) &&& 1) 1)] M := by
    rw [eix, a63 v hv, nI_clamp (by omega)]
    refine ⟨vp_in_nI ht hlt, hK _ _ _ _ ?_⟩
    clear hK K
    refine xF_go o_Mo_hasValue [] 60 (fun K hK => ?_)
    repeat' ((conv => whnf); first | refine ⟨fun h => ?_, fun h => ?_⟩ | refine ⟨?_, ?_⟩ | refine hK _ _ _ _ ?_)
    · have h1 : ¬ lg_cmp ((M.2 c (t + v / 64) >>> ((nI (v % 64)).toInt64 &&& 63)) &&& 1) 1 = 0 := by assumption
      rw [xcmp0, xbit_test1 _ (by omega)] at h1
      refine xF_zret o_Mo_hasValue rfl rfl (Or.inl rfl) ?_
      have h2 : sHas (M.2 c) t v = false := by
        unfold sHas
        cases hh : xbit (M.2 c (t + v / 64)) (v % 64) with
        | true => exact absurd hh h1
        | false => rfl
      exact ⟨rfl, by rw [h2]; rfl⟩
    · have h1 : lg_cmp ((M.2 c (t + v / 64) >>> ((nI (v % 64)).toInt64 &&& 63)) &&& 1) 1 = 0 := by assumption
      rw [xcmp0, xbit_test1 _ (by omega)] at h1
      refine xF_zret o_Mo_hasValue rfl rfl (Or.inr rfl) ?_
      exact ⟨rfl, by unfold sHas; rw [h1]; rfl⟩
  rcases hc with rfl | rfl <;> exact key
theorem E_link (a b : Nat) (ha : a < 36) (hb : b < 36) (M : xMe) : xE l G y_Ch_link [.ref 17, .int (nI a), .int (nI b)] M (fun r M' => r = none ∧ M' = xsL M 18 (vp_updL (M.2 18) a (M.2 18 a ||| (1 : Int64) <<< ((nI b).toInt64 &&& 63)))) := by
  refine xE_of [some (.ref 17), some (.int (nI a)), some (.int (nI b))] (by decide +kernel) (Nat.le_of_ble_eq_true rfl) rfl ?_
  refine xF_go o_Ch_link [] 60 (fun K hK => ?_)
  repeat' ((conv => whnf); first | refine ⟨fun h => ?_, fun h => ?_⟩ | refine ⟨?_, ?_⟩ | refine hK _ _ _ _ ?_)
  · exact vp_in_nI ha (by decide)
  · exact vp_in_nI ha (by decide)
  · refine xF_vret o_Ch_link rfl rfl ?_
    rw [nI_clamp (by omega)]
    exact ⟨rfl, rfl⟩
theorem E_chForget (M : xMe) : xE l G y_Ch_forget [.ref 17] M (fun r M' => r = none ∧ M' = xsL M 18 (fun i => if i < 36 then 0 else M.2 18 i)) := by
  refine xE_of [some (.ref 17)] (by decide +kernel) (Nat.le_of_ble_eq_true rfl) rfl ?_
  refine xF_go o_Ch_forget [] 60 (fun K hK => ?_)
  repeat' ((conv => whnf); first | refine ⟨fun h => ?_, fun h => ?_⟩ | refine ⟨?_, ?_⟩ | refine hK _ _ _ _ ?_)
  refine xF_callS o_Ch_forget [.ref 18, .long 0] rfl z_JA_fill2 s_JA_fill2 l_Ch_19 rfl ⟨⟨by decide, by decide⟩, rfl, rfl⟩ (Nat.le_of_ble_eq_true rfl) rfl (E_fill2 l G 18 (by simp) 0 M) ?_
  rintro v M' ⟨rfl, rfl⟩
  clear hK K
  refine xF_go o_Ch_forget [] 60 (fun K hK => ?_)
  repeat' ((conv => whnf); first | refine ⟨fun h => ?_, fun h => ?_⟩ | refine ⟨?_, ?_⟩ | refine hK _ _ _ _ ?_)
  refine xF_vret o_Ch_forget rfl rfl ?_
  exact ⟨rfl, rfl⟩
end XST
end
