section
-- ===== PART A: goes FIRST, ahead of the names: the tables' words, and 'selects' of the private methods out of them =====
/-- a private method of a class that the tables say can be made, by its rows of tables_1 -/
def lw_okq (q : MethodName × Nat) : Prop := (q.1.cls ≠ "java/lang/invoke/MethodHandle" ∧ q.1.cls ≠ "java/lang/invoke/VarHandle") ∧ Cond.instantiable q.1.cls q.2 ∈ tables_1 ∧ Cond.privateMethod q.1 ∈ tables_1 ∧ Cond.instanceMethod q.1 ∈ tables_1
theorem lw_p0 : lw_okq (⟨"VillageCuts", "fallen", "(I)I"⟩, 10) := ⟨⟨by decide +kernel, by decide +kernel⟩, List.mem_of_getElem? (i := 16) (by decide +kernel), List.mem_of_getElem? (i := 178) (by decide +kernel), List.mem_of_getElem? (i := 179) (by decide +kernel)⟩
theorem lw_p1 : lw_okq (⟨"VillageCuts$Text", "code", "()I"⟩, 4) := ⟨⟨by decide +kernel, by decide +kernel⟩, List.mem_of_getElem? (i := 182) (by decide +kernel), List.mem_of_getElem? (i := 206) (by decide +kernel), List.mem_of_getElem? (i := 207) (by decide +kernel)⟩
theorem lw_p2 : lw_okq (⟨"VillageCuts$Text", "isVillageRead", "(LVillageCuts$Land;)Z"⟩, 4) := ⟨⟨by decide +kernel, by decide +kernel⟩, List.mem_of_getElem? (i := 182) (by decide +kernel), List.mem_of_getElem? (i := 210) (by decide +kernel), List.mem_of_getElem? (i := 211) (by decide +kernel)⟩
theorem lw_p3 : lw_okq (⟨"VillageCuts$Land", "noteLetter", "(III)V"⟩, 6) := ⟨⟨by decide +kernel, by decide +kernel⟩, List.mem_of_getElem? (i := 39) (by decide +kernel), List.mem_of_getElem? (i := 287) (by decide +kernel), List.mem_of_getElem? (i := 288) (by decide +kernel)⟩
theorem lw_p4 : lw_okq (⟨"VillageCuts$Land", "firstThatGoesOn", "([I)I"⟩, 6) := ⟨⟨by decide +kernel, by decide +kernel⟩, List.mem_of_getElem? (i := 39) (by decide +kernel), List.mem_of_getElem? (i := 303) (by decide +kernel), List.mem_of_getElem? (i := 304) (by decide +kernel)⟩
theorem lw_p5 : lw_okq (⟨"VillageCuts$Land", "noteNeed", "(II)V"⟩, 6) := ⟨⟨by decide +kernel, by decide +kernel⟩, List.mem_of_getElem? (i := 39) (by decide +kernel), List.mem_of_getElem? (i := 315) (by decide +kernel), List.mem_of_getElem? (i := 316) (by decide +kernel)⟩
theorem lw_p6 : lw_okq (⟨"VillageCuts", "takeCut", "(IIIZ)I"⟩, 10) := ⟨⟨by decide +kernel, by decide +kernel⟩, List.mem_of_getElem? (i := 16) (by decide +kernel), List.mem_of_getElem? (i := 404) (by decide +kernel), List.mem_of_getElem? (i := 405) (by decide +kernel)⟩
theorem lw_p7 : lw_okq (⟨"VillageCuts", "countOf", "([II)I"⟩, 10) := ⟨⟨by decide +kernel, by decide +kernel⟩, List.mem_of_getElem? (i := 16) (by decide +kernel), List.mem_of_getElem? (i := 429) (by decide +kernel), List.mem_of_getElem? (i := 430) (by decide +kernel)⟩
theorem lw_p8 : lw_okq (⟨"VillageCuts", "endOfTale", "(LVillageCuts$Sheet;III)I"⟩, 10) := ⟨⟨by decide +kernel, by decide +kernel⟩, List.mem_of_getElem? (i := 16) (by decide +kernel), List.mem_of_getElem? (i := 445) (by decide +kernel), List.mem_of_getElem? (i := 446) (by decide +kernel)⟩
theorem lw_p9 : lw_okq (⟨"VillageCuts", "surveyed", "()LVillageCuts$Survey;"⟩, 10) := ⟨⟨by decide +kernel, by decide +kernel⟩, List.mem_of_getElem? (i := 16) (by decide +kernel), List.mem_of_getElem? (i := 455) (by decide +kernel), List.mem_of_getElem? (i := 456) (by decide +kernel)⟩
theorem lw_p10 : lw_okq (⟨"VillageCuts$Survey", "walk", "(LVillageCuts$Land;)V"⟩, 8) := ⟨⟨by decide +kernel, by decide +kernel⟩, List.mem_of_getElem? (i := 459) (by decide +kernel), List.mem_of_getElem? (i := 465) (by decide +kernel), List.mem_of_getElem? (i := 466) (by decide +kernel)⟩
theorem lw_p11 : lw_okq (⟨"VillageCuts$Survey", "passWays", "(I)V"⟩, 8) := ⟨⟨by decide +kernel, by decide +kernel⟩, List.mem_of_getElem? (i := 459) (by decide +kernel), List.mem_of_getElem? (i := 472) (by decide +kernel), List.mem_of_getElem? (i := 473) (by decide +kernel)⟩
theorem lw_p12 : lw_okq (⟨"VillageCuts$Survey", "goesOnward", "(II)Z"⟩, 8) := ⟨⟨by decide +kernel, by decide +kernel⟩, List.mem_of_getElem? (i := 459) (by decide +kernel), List.mem_of_getElem? (i := 476) (by decide +kernel), List.mem_of_getElem? (i := 477) (by decide +kernel)⟩
theorem lw_p13 : lw_okq (⟨"VillageCuts", "areReadingsSo", "(II)Z"⟩, 10) := ⟨⟨by decide +kernel, by decide +kernel⟩, List.mem_of_getElem? (i := 16) (by decide +kernel), List.mem_of_getElem? (i := 558) (by decide +kernel), List.mem_of_getElem? (i := 559) (by decide +kernel)⟩
theorem lw_p14 : lw_okq (⟨"VillageCutsModel", "against", "(IIII)I"⟩, 27) := ⟨⟨by decide +kernel, by decide +kernel⟩, List.mem_of_getElem? (i := 668) (by decide +kernel), List.mem_of_getElem? (i := 769) (by decide +kernel), List.mem_of_getElem? (i := 770) (by decide +kernel)⟩
theorem lw_p15 : lw_okq (⟨"VillageCutsModel", "fails", "(I)I"⟩, 27) := ⟨⟨by decide +kernel, by decide +kernel⟩, List.mem_of_getElem? (i := 668) (by decide +kernel), List.mem_of_getElem? (i := 773) (by decide +kernel), List.mem_of_getElem? (i := 774) (by decide +kernel)⟩
def lw_privs_1 : List (MethodName × Nat) := [(⟨"VillageCuts", "fallen", "(I)I"⟩, 10), (⟨"VillageCuts$Text", "code", "()I"⟩, 4), (⟨"VillageCuts$Text", "isVillageRead", "(LVillageCuts$Land;)Z"⟩, 4), (⟨"VillageCuts$Land", "noteLetter", "(III)V"⟩, 6), (⟨"VillageCuts$Land", "firstThatGoesOn", "([I)I"⟩, 6), (⟨"VillageCuts$Land", "noteNeed", "(II)V"⟩, 6), (⟨"VillageCuts", "takeCut", "(IIIZ)I"⟩, 10), (⟨"VillageCuts", "countOf", "([II)I"⟩, 10), (⟨"VillageCuts", "endOfTale", "(LVillageCuts$Sheet;III)I"⟩, 10), (⟨"VillageCuts", "surveyed", "()LVillageCuts$Survey;"⟩, 10), (⟨"VillageCuts$Survey", "walk", "(LVillageCuts$Land;)V"⟩, 8), (⟨"VillageCuts$Survey", "passWays", "(I)V"⟩, 8), (⟨"VillageCuts$Survey", "goesOnward", "(II)Z"⟩, 8), (⟨"VillageCuts", "areReadingsSo", "(II)Z"⟩, 10), (⟨"VillageCutsModel", "against", "(IIII)I"⟩, 27), (⟨"VillageCutsModel", "fails", "(I)I"⟩, 27)]
theorem lw_r1 : ∀ q ∈ lw_privs_1, lw_okq q := List.forall_mem_cons.mpr ⟨lw_p0, List.forall_mem_cons.mpr ⟨lw_p1, List.forall_mem_cons.mpr ⟨lw_p2, List.forall_mem_cons.mpr ⟨lw_p3, List.forall_mem_cons.mpr ⟨lw_p4, List.forall_mem_cons.mpr ⟨lw_p5, List.forall_mem_cons.mpr ⟨lw_p6, List.forall_mem_cons.mpr ⟨lw_p7, List.forall_mem_cons.mpr ⟨lw_p8, List.forall_mem_cons.mpr ⟨lw_p9, List.forall_mem_cons.mpr ⟨lw_p10, List.forall_mem_cons.mpr ⟨lw_p11, List.forall_mem_cons.mpr ⟨lw_p12, List.forall_mem_cons.mpr ⟨lw_p13, List.forall_mem_cons.mpr ⟨lw_p14, List.forall_mem_cons.mpr ⟨lw_p15, fun _ h => absurd h List.not_mem_nil⟩⟩⟩⟩⟩⟩⟩⟩⟩⟩⟩⟩⟩⟩⟩⟩
theorem lw_p16 : lw_okq (⟨"VillageCutsModel", "readLand", "(I)Z"⟩, 27) := ⟨⟨by decide +kernel, by decide +kernel⟩, List.mem_of_getElem? (i := 668) (by decide +kernel), List.mem_of_getElem? (i := 777) (by decide +kernel), List.mem_of_getElem? (i := 778) (by decide +kernel)⟩
theorem lw_p17 : lw_okq (⟨"VillageCutsModel", "isSign", "(II)Z"⟩, 27) := ⟨⟨by decide +kernel, by decide +kernel⟩, List.mem_of_getElem? (i := 668) (by decide +kernel), List.mem_of_getElem? (i := 781) (by decide +kernel), List.mem_of_getElem? (i := 782) (by decide +kernel)⟩
theorem lw_p18 : lw_okq (⟨"VillageCutsModel", "readVillage", "(I)Z"⟩, 27) := ⟨⟨by decide +kernel, by decide +kernel⟩, List.mem_of_getElem? (i := 668) (by decide +kernel), List.mem_of_getElem? (i := 785) (by decide +kernel), List.mem_of_getElem? (i := 786) (by decide +kernel)⟩
theorem lw_p19 : lw_okq (⟨"VillageCutsModel", "isThingNext", "(I)Z"⟩, 27) := ⟨⟨by decide +kernel, by decide +kernel⟩, List.mem_of_getElem? (i := 668) (by decide +kernel), List.mem_of_getElem? (i := 789) (by decide +kernel), List.mem_of_getElem? (i := 790) (by decide +kernel)⟩
theorem lw_p20 : lw_okq (⟨"VillageCutsModel", "readThing", "(I)Z"⟩, 27) := ⟨⟨by decide +kernel, by decide +kernel⟩, List.mem_of_getElem? (i := 668) (by decide +kernel), List.mem_of_getElem? (i := 793) (by decide +kernel), List.mem_of_getElem? (i := 794) (by decide +kernel)⟩
theorem lw_p21 : lw_okq (⟨"VillageCutsModel", "digit", "(II)I"⟩, 27) := ⟨⟨by decide +kernel, by decide +kernel⟩, List.mem_of_getElem? (i := 668) (by decide +kernel), List.mem_of_getElem? (i := 797) (by decide +kernel), List.mem_of_getElem? (i := 798) (by decide +kernel)⟩
theorem lw_p22 : lw_okq (⟨"VillageCutsModel", "firstAmiss", "()I"⟩, 27) := ⟨⟨by decide +kernel, by decide +kernel⟩, List.mem_of_getElem? (i := 668) (by decide +kernel), List.mem_of_getElem? (i := 801) (by decide +kernel), List.mem_of_getElem? (i := 802) (by decide +kernel)⟩
theorem lw_p23 : lw_okq (⟨"VillageCutsModel", "isCircle", "()Z"⟩, 27) := ⟨⟨by decide +kernel, by decide +kernel⟩, List.mem_of_getElem? (i := 668) (by decide +kernel), List.mem_of_getElem? (i := 805) (by decide +kernel), List.mem_of_getElem? (i := 806) (by decide +kernel)⟩
theorem lw_p24 : lw_okq (⟨"VillageCutsModel", "startAheads", "(II)V"⟩, 27) := ⟨⟨by decide +kernel, by decide +kernel⟩, List.mem_of_getElem? (i := 668) (by decide +kernel), List.mem_of_getElem? (i := 809) (by decide +kernel), List.mem_of_getElem? (i := 810) (by decide +kernel)⟩
theorem lw_p25 : lw_okq (⟨"VillageCutsModel", "goesOn", "()Z"⟩, 27) := ⟨⟨by decide +kernel, by decide +kernel⟩, List.mem_of_getElem? (i := 668) (by decide +kernel), List.mem_of_getElem? (i := 813) (by decide +kernel), List.mem_of_getElem? (i := 814) (by decide +kernel)⟩
theorem lw_p26 : lw_okq (⟨"VillageCutsModel", "takesFromAheads", "(I)Z"⟩, 27) := ⟨⟨by decide +kernel, by decide +kernel⟩, List.mem_of_getElem? (i := 668) (by decide +kernel), List.mem_of_getElem? (i := 817) (by decide +kernel), List.mem_of_getElem? (i := 818) (by decide +kernel)⟩
theorem lw_p27 : lw_okq (⟨"VillageCutsModel", "takeLand", "()V"⟩, 27) := ⟨⟨by decide +kernel, by decide +kernel⟩, List.mem_of_getElem? (i := 668) (by decide +kernel), List.mem_of_getElem? (i := 821) (by decide +kernel), List.mem_of_getElem? (i := 822) (by decide +kernel)⟩
theorem lw_p28 : lw_okq (⟨"VillageCutsModel", "isVillage", "(I)Z"⟩, 27) := ⟨⟨by decide +kernel, by decide +kernel⟩, List.mem_of_getElem? (i := 668) (by decide +kernel), List.mem_of_getElem? (i := 829) (by decide +kernel), List.mem_of_getElem? (i := 830) (by decide +kernel)⟩
theorem lw_p29 : lw_okq (⟨"VillageCutsModel", "takeNow", "()V"⟩, 27) := ⟨⟨by decide +kernel, by decide +kernel⟩, List.mem_of_getElem? (i := 668) (by decide +kernel), List.mem_of_getElem? (i := 833) (by decide +kernel), List.mem_of_getElem? (i := 834) (by decide +kernel)⟩
theorem lw_p30 : lw_okq (⟨"VillageCutsModel", "valueOf", "(I)I"⟩, 27) := ⟨⟨by decide +kernel, by decide +kernel⟩, List.mem_of_getElem? (i := 668) (by decide +kernel), List.mem_of_getElem? (i := 837) (by decide +kernel), List.mem_of_getElem? (i := 838) (by decide +kernel)⟩
theorem lw_p31 : lw_okq (⟨"VillageCutsModel", "worthOf", "(I)I"⟩, 27) := ⟨⟨by decide +kernel, by decide +kernel⟩, List.mem_of_getElem? (i := 668) (by decide +kernel), List.mem_of_getElem? (i := 841) (by decide +kernel), List.mem_of_getElem? (i := 842) (by decide +kernel)⟩
def lw_privs_2 : List (MethodName × Nat) := [(⟨"VillageCutsModel", "readLand", "(I)Z"⟩, 27), (⟨"VillageCutsModel", "isSign", "(II)Z"⟩, 27), (⟨"VillageCutsModel", "readVillage", "(I)Z"⟩, 27), (⟨"VillageCutsModel", "isThingNext", "(I)Z"⟩, 27), (⟨"VillageCutsModel", "readThing", "(I)Z"⟩, 27), (⟨"VillageCutsModel", "digit", "(II)I"⟩, 27), (⟨"VillageCutsModel", "firstAmiss", "()I"⟩, 27), (⟨"VillageCutsModel", "isCircle", "()Z"⟩, 27), (⟨"VillageCutsModel", "startAheads", "(II)V"⟩, 27), (⟨"VillageCutsModel", "goesOn", "()Z"⟩, 27), (⟨"VillageCutsModel", "takesFromAheads", "(I)Z"⟩, 27), (⟨"VillageCutsModel", "takeLand", "()V"⟩, 27), (⟨"VillageCutsModel", "isVillage", "(I)Z"⟩, 27), (⟨"VillageCutsModel", "takeNow", "()V"⟩, 27), (⟨"VillageCutsModel", "valueOf", "(I)I"⟩, 27), (⟨"VillageCutsModel", "worthOf", "(I)I"⟩, 27)]
theorem lw_r2 : ∀ q ∈ lw_privs_2, lw_okq q := List.forall_mem_cons.mpr ⟨lw_p16, List.forall_mem_cons.mpr ⟨lw_p17, List.forall_mem_cons.mpr ⟨lw_p18, List.forall_mem_cons.mpr ⟨lw_p19, List.forall_mem_cons.mpr ⟨lw_p20, List.forall_mem_cons.mpr ⟨lw_p21, List.forall_mem_cons.mpr ⟨lw_p22, List.forall_mem_cons.mpr ⟨lw_p23, List.forall_mem_cons.mpr ⟨lw_p24, List.forall_mem_cons.mpr ⟨lw_p25, List.forall_mem_cons.mpr ⟨lw_p26, List.forall_mem_cons.mpr ⟨lw_p27, List.forall_mem_cons.mpr ⟨lw_p28, List.forall_mem_cons.mpr ⟨lw_p29, List.forall_mem_cons.mpr ⟨lw_p30, List.forall_mem_cons.mpr ⟨lw_p31, fun _ h => absurd h List.not_mem_nil⟩⟩⟩⟩⟩⟩⟩⟩⟩⟩⟩⟩⟩⟩⟩⟩
theorem lw_p32 : lw_okq (⟨"VillageCutsModel", "isReady", "(I)Z"⟩, 27) := ⟨⟨by decide +kernel, by decide +kernel⟩, List.mem_of_getElem? (i := 668) (by decide +kernel), List.mem_of_getElem? (i := 845) (by decide +kernel), List.mem_of_getElem? (i := 846) (by decide +kernel)⟩
theorem lw_p33 : lw_okq (⟨"VillageCutsModel", "aheadOf", "(III)I"⟩, 27) := ⟨⟨by decide +kernel, by decide +kernel⟩, List.mem_of_getElem? (i := 668) (by decide +kernel), List.mem_of_getElem? (i := 849) (by decide +kernel), List.mem_of_getElem? (i := 850) (by decide +kernel)⟩
theorem lw_p34 : lw_okq (⟨"VillageCutsModel", "isThing", "(II)Z"⟩, 27) := ⟨⟨by decide +kernel, by decide +kernel⟩, List.mem_of_getElem? (i := 668) (by decide +kernel), List.mem_of_getElem? (i := 857) (by decide +kernel), List.mem_of_getElem? (i := 858) (by decide +kernel)⟩
theorem lw_p35 : lw_okq (⟨"VillageCutsModel", "inCut", "()I"⟩, 27) := ⟨⟨by decide +kernel, by decide +kernel⟩, List.mem_of_getElem? (i := 668) (by decide +kernel), List.mem_of_getElem? (i := 873) (by decide +kernel), List.mem_of_getElem? (i := 874) (by decide +kernel)⟩
theorem lw_p36 : lw_okq (⟨"VillageCutsModel", "refusesCells", "(I)I"⟩, 27) := ⟨⟨by decide +kernel, by decide +kernel⟩, List.mem_of_getElem? (i := 668) (by decide +kernel), List.mem_of_getElem? (i := 881) (by decide +kernel), List.mem_of_getElem? (i := 882) (by decide +kernel)⟩
theorem lw_p37 : lw_okq (⟨"VillageCutsModel", "takeCells", "(I)V"⟩, 27) := ⟨⟨by decide +kernel, by decide +kernel⟩, List.mem_of_getElem? (i := 668) (by decide +kernel), List.mem_of_getElem? (i := 885) (by decide +kernel), List.mem_of_getElem? (i := 886) (by decide +kernel)⟩
theorem lw_p38 : lw_okq (⟨"VillageCutsModel", "canBe", "()Z"⟩, 27) := ⟨⟨by decide +kernel, by decide +kernel⟩, List.mem_of_getElem? (i := 668) (by decide +kernel), List.mem_of_getElem? (i := 889) (by decide +kernel), List.mem_of_getElem? (i := 890) (by decide +kernel)⟩
theorem lw_p39 : lw_okq (⟨"VillageCutsModel", "sumOf", "()I"⟩, 27) := ⟨⟨by decide +kernel, by decide +kernel⟩, List.mem_of_getElem? (i := 668) (by decide +kernel), List.mem_of_getElem? (i := 893) (by decide +kernel), List.mem_of_getElem? (i := 894) (by decide +kernel)⟩
theorem lw_p40 : lw_okq (⟨"VillageCutsModel", "underWay", "()I"⟩, 27) := ⟨⟨by decide +kernel, by decide +kernel⟩, List.mem_of_getElem? (i := 668) (by decide +kernel), List.mem_of_getElem? (i := 897) (by decide +kernel), List.mem_of_getElem? (i := 898) (by decide +kernel)⟩
theorem lw_p41 : lw_okq (⟨"VillageCutsModel", "lettersBy", "(I)I"⟩, 27) := ⟨⟨by decide +kernel, by decide +kernel⟩, List.mem_of_getElem? (i := 668) (by decide +kernel), List.mem_of_getElem? (i := 901) (by decide +kernel), List.mem_of_getElem? (i := 902) (by decide +kernel)⟩
theorem lw_p42 : lw_okq (⟨"VillageCutsModel", "close", "()V"⟩, 27) := ⟨⟨by decide +kernel, by decide +kernel⟩, List.mem_of_getElem? (i := 668) (by decide +kernel), List.mem_of_getElem? (i := 905) (by decide +kernel), List.mem_of_getElem? (i := 906) (by decide +kernel)⟩
theorem lw_p43 : lw_okq (⟨"VillageCutsModel", "goTale", "(II)I"⟩, 27) := ⟨⟨by decide +kernel, by decide +kernel⟩, List.mem_of_getElem? (i := 668) (by decide +kernel), List.mem_of_getElem? (i := 917) (by decide +kernel), List.mem_of_getElem? (i := 918) (by decide +kernel)⟩
theorem lw_p44 : lw_okq (⟨"VillageCutsModel", "tellTale", "(I)I"⟩, 27) := ⟨⟨by decide +kernel, by decide +kernel⟩, List.mem_of_getElem? (i := 668) (by decide +kernel), List.mem_of_getElem? (i := 921) (by decide +kernel), List.mem_of_getElem? (i := 922) (by decide +kernel)⟩
theorem lw_p45 : lw_okq (⟨"VillageCutsModel", "isCut", "(I)Z"⟩, 27) := ⟨⟨by decide +kernel, by decide +kernel⟩, List.mem_of_getElem? (i := 668) (by decide +kernel), List.mem_of_getElem? (i := 929) (by decide +kernel), List.mem_of_getElem? (i := 930) (by decide +kernel)⟩
theorem lw_p46 : lw_okq (⟨"VillageCutsModel", "findWays", "(I)V"⟩, 27) := ⟨⟨by decide +kernel, by decide +kernel⟩, List.mem_of_getElem? (i := 668) (by decide +kernel), List.mem_of_getElem? (i := 938) (by decide +kernel), List.mem_of_getElem? (i := 939) (by decide +kernel)⟩
theorem lw_p47 : lw_okq (⟨"VillageCutsModel", "lastCode", "()I"⟩, 27) := ⟨⟨by decide +kernel, by decide +kernel⟩, List.mem_of_getElem? (i := 668) (by decide +kernel), List.mem_of_getElem? (i := 942) (by decide +kernel), List.mem_of_getElem? (i := 943) (by decide +kernel)⟩
def lw_privs_3 : List (MethodName × Nat) := [(⟨"VillageCutsModel", "isReady", "(I)Z"⟩, 27), (⟨"VillageCutsModel", "aheadOf", "(III)I"⟩, 27), (⟨"VillageCutsModel", "isThing", "(II)Z"⟩, 27), (⟨"VillageCutsModel", "inCut", "()I"⟩, 27), (⟨"VillageCutsModel", "refusesCells", "(I)I"⟩, 27), (⟨"VillageCutsModel", "takeCells", "(I)V"⟩, 27), (⟨"VillageCutsModel", "canBe", "()Z"⟩, 27), (⟨"VillageCutsModel", "sumOf", "()I"⟩, 27), (⟨"VillageCutsModel", "underWay", "()I"⟩, 27), (⟨"VillageCutsModel", "lettersBy", "(I)I"⟩, 27), (⟨"VillageCutsModel", "close", "()V"⟩, 27), (⟨"VillageCutsModel", "goTale", "(II)I"⟩, 27), (⟨"VillageCutsModel", "tellTale", "(I)I"⟩, 27), (⟨"VillageCutsModel", "isCut", "(I)Z"⟩, 27), (⟨"VillageCutsModel", "findWays", "(I)V"⟩, 27), (⟨"VillageCutsModel", "lastCode", "()I"⟩, 27)]
theorem lw_r3 : ∀ q ∈ lw_privs_3, lw_okq q := List.forall_mem_cons.mpr ⟨lw_p32, List.forall_mem_cons.mpr ⟨lw_p33, List.forall_mem_cons.mpr ⟨lw_p34, List.forall_mem_cons.mpr ⟨lw_p35, List.forall_mem_cons.mpr ⟨lw_p36, List.forall_mem_cons.mpr ⟨lw_p37, List.forall_mem_cons.mpr ⟨lw_p38, List.forall_mem_cons.mpr ⟨lw_p39, List.forall_mem_cons.mpr ⟨lw_p40, List.forall_mem_cons.mpr ⟨lw_p41, List.forall_mem_cons.mpr ⟨lw_p42, List.forall_mem_cons.mpr ⟨lw_p43, List.forall_mem_cons.mpr ⟨lw_p44, List.forall_mem_cons.mpr ⟨lw_p45, List.forall_mem_cons.mpr ⟨lw_p46, List.forall_mem_cons.mpr ⟨lw_p47, fun _ h => absurd h List.not_mem_nil⟩⟩⟩⟩⟩⟩⟩⟩⟩⟩⟩⟩⟩⟩⟩⟩
theorem lw_p48 : lw_okq (⟨"VillageCutsModel", "allThings", "()I"⟩, 27) := ⟨⟨by decide +kernel, by decide +kernel⟩, List.mem_of_getElem? (i := 668) (by decide +kernel), List.mem_of_getElem? (i := 950) (by decide +kernel), List.mem_of_getElem? (i := 951) (by decide +kernel)⟩
theorem lw_p49 : lw_okq (⟨"VillageCutsModel", "areSo", "()Z"⟩, 27) := ⟨⟨by decide +kernel, by decide +kernel⟩, List.mem_of_getElem? (i := 668) (by decide +kernel), List.mem_of_getElem? (i := 974) (by decide +kernel), List.mem_of_getElem? (i := 975) (by decide +kernel)⟩
theorem lw_p50 : lw_okq (⟨"VillageCutsModel", "lost", "(I)J"⟩, 27) := ⟨⟨by decide +kernel, by decide +kernel⟩, List.mem_of_getElem? (i := 668) (by decide +kernel), List.mem_of_getElem? (i := 1001) (by decide +kernel), List.mem_of_getElem? (i := 1002) (by decide +kernel)⟩
theorem lw_p51 : lw_okq (⟨"VillageCutsModel", "begins", "(I)V"⟩, 27) := ⟨⟨by decide +kernel, by decide +kernel⟩, List.mem_of_getElem? (i := 668) (by decide +kernel), List.mem_of_getElem? (i := 1013) (by decide +kernel), List.mem_of_getElem? (i := 1014) (by decide +kernel)⟩
def lw_privs_4 : List (MethodName × Nat) := [(⟨"VillageCutsModel", "allThings", "()I"⟩, 27), (⟨"VillageCutsModel", "areSo", "()Z"⟩, 27), (⟨"VillageCutsModel", "lost", "(I)J"⟩, 27), (⟨"VillageCutsModel", "begins", "(I)V"⟩, 27)]
theorem lw_r4 : ∀ q ∈ lw_privs_4, lw_okq q := List.forall_mem_cons.mpr ⟨lw_p48, List.forall_mem_cons.mpr ⟨lw_p49, List.forall_mem_cons.mpr ⟨lw_p50, List.forall_mem_cons.mpr ⟨lw_p51, fun _ h => absurd h List.not_mem_nil⟩⟩⟩⟩
def lw_privs : List (MethodName × Nat) := lw_privs_1 ++ (lw_privs_2 ++ (lw_privs_3 ++ (lw_privs_4)))
def lw_tbl : List Cond := k2_sels lw_privs ++ tables_1
theorem lw_privs_ok : ∀ q ∈ lw_privs, lw_okq q := by
  show ∀ q ∈ lw_privs_1 ++ (lw_privs_2 ++ (lw_privs_3 ++ (lw_privs_4))), lw_okq q
  exact List.forall_mem_append.mpr ⟨lw_r1, List.forall_mem_append.mpr ⟨lw_r2, List.forall_mem_append.mpr ⟨lw_r3, lw_r4⟩⟩⟩
end
section
/-! ===== BEGIN words of one list among another's, by their places ===== -/
theorem goodIn_r {big : List Cond} (ws : List Cond) (ps : List Nat) (hp : ws = ps.filterMap (fun i => big[i]?)) (h : ws.all goodWord = true) : GoodIn big ws := by
  intro w hw
  have h1 := List.all_eq_true.mp h w hw
  rw [hp] at hw
  obtain ⟨i, -, hi⟩ := List.mem_filterMap.mp hw
  have hm : w ∈ big := by first | exact List.mem_of_getElem? hi | exact List.getElem?_mem hi
  exact ⟨hm, good_of_word h1⟩
theorem goodIn_app {big a b : List Cond} (ha : GoodIn big a) (hb : GoodIn big b) : GoodIn big (a ++ b) := fun w h => (List.mem_append.mp h).elim (ha w) (hb w)
theorem goodIn_ca {big a b : List Cond} {c : Cond} (ha : GoodIn big (c :: a)) (hb : GoodIn big b) : GoodIn big (c :: (a ++ b)) := fun w h => (List.mem_cons.mp h).elim (fun e => ha w (List.mem_cons.mpr (Or.inl e))) (fun h => (List.mem_append.mp h).elim (fun h => ha w (List.mem_cons.mpr (Or.inr h))) (hb w))
theorem goodIn_sub {big ws : List Cond} (hm : ∀ w ∈ ws, w ∈ big) (h : ws.all goodWord = true) : GoodIn big ws := fun w hw => ⟨hm w hw, good_of_word (List.all_eq_true.mp h w hw)⟩
/-! ===== END ===== -/

/-! ===== BEGIN new T[n][m]: the outer array a place, the inner ones among the pooled ===== -/
/-- f, but v at every address of l -/
def vr_up {α : Type} (f : Nat → α) (l : List Nat) (v : α) : Nat → α := fun a => if a ∈ l then v else f a
theorem vr_up_in {α : Type} {f : Nat → α} {l : List Nat} {v : α} {a : Nat} (h : a ∈ l) : vr_up f l v a = v := if_pos h
theorem vr_up_ne {α : Type} {f : Nat → α} {l : List Nat} {v : α} {a : Nat} (h : a ∉ l) : vr_up f l v a = f a := if_neg h
theorem vr_rows {L l : List Nat} {f : Nat → va_E} {e : va_E} (h : ∀ a, a ∈ l → a ∉ L) : va_pl L f ++ l.map (fun a => (a, e)) = va_pl (L ++ l) (vr_up f l e) := by
  unfold va_pl
  rw [List.map_append]
  congr 1
  · apply List.map_congr_left
    intro a ha
    rw [vr_up_ne (fun q => h a q ha)]
  · apply List.map_congr_left
    intro a ha
    rw [vr_up_in ha]
theorem vr_lay {X rows : va_W} {x : Nat × va_E} {pl : va_W} {D : va_G} {cl : List vw_C} {H : Heap} (hP : va_P D cl (((X ++ pl) ++ [x]) ++ rows) H) : va_P D cl ((X ++ [x]) ++ (pl ++ rows)) H := by
  rw [List.append_assoc (X ++ pl)] at hP
  have h := va_P.swap hP
  rw [← List.append_assoc X] at h
  have h2 := va_P.swap h
  rw [List.append_assoc (X ++ [x])] at h2
  exact h2
theorem vr_layD {X rows : va_W} {x : Nat × va_E} {pl : va_W} {A : Nat → Prop} (hD : va_D A (((X ++ pl) ++ [x]) ++ rows)) : va_D A ((X ++ [x]) ++ (pl ++ rows)) := by
  rw [List.append_assoc (X ++ pl)] at hD
  have h := va_D.swap hD
  rw [← List.append_assoc X] at h
  have h2 := va_D.swap h
  rw [List.append_assoc (X ++ [x])] at h2
  exact h2
theorem vr_outer (c : ClassId) (N h0 : Nat) : ∀ i : Nat, Jvm.Free.Multi.outerC c N h0 i = arrV c N (fun j => va_rf (if j < i then some (h0 + 1 + j) else none))
  | 0 => by
    show ({ cls := c, slots := Array.replicate N .null, vm := .none } : Cell) = _
    rw [arrV_new]
    refine congrArg (arrV c N) (funext fun j => ?_)
    simp [va_rf]
  | i + 1 => by
    show (Jvm.Free.Multi.outerC c N h0 i).setSlot i (.ref (h0 + 1 + i)) = _
    rw [vr_outer c N h0 i, arrV_store]
    refine congrArg (arrV c N) (funext fun j => ?_)
    by_cases e : j = i
    · subst e
      simp [updV, va_rf]
    · by_cases h : j < i
      · simp [updV, e, h, Nat.lt_succ_of_lt h]
      · simp [updV, e, h, show ¬ j < i + 1 by omega]
def va_AOA (ty : FieldType) (U : State) : Prop := (Cond.arrayOver (.array ty)).before #[] U = true
theorem va_AOA.of {ty : FieldType} {A : Array Value} {U : State} (h : (Cond.arrayOver (.array ty)).before A U = true) : va_AOA ty U := h
theorem va_AOA.use {ty : FieldType} {A : Array Value} {U : State} (h : va_AOA ty U) : (Cond.arrayOver (.array ty)).before A U = true := h
theorem va_AOA.moved {ty : FieldType} {u U : State} (hvm : u.vm.Alike U.vm) (h : va_AOA ty u) : va_AOA ty U := by
  have h1 : (Cond.arrayOver (.array ty)).before #[] (u.setVm U.vm) = true := by rw [Cond.arrayOver_setVmC hvm]; exact h
  exact h1
section VGM
variable {p : Program} {l : Launch} {e : Env} {R : Room} {s : State} {m : MethodId} {args : Array Value} {below : List Frame} {meth : Method} {c : Code} {H : Heap} {locs : List Loc} {cells slots : Nat} {Q : State → Prop}
variable {cc : ByteArray} {pc : Nat} {ls : Array Slot} {rest : List Value} {D : va_G} {cl : List vw_C} {A : Nat → Prop} {a : Nat} {tys : List (ClassId × FieldType)} {ws : va_W} {H0 : Heap}
theorem va_mna {X : va_W} {L : List Nat} {f : Nat → va_E} {cc : ByteArray} (hexec : p.tables.exec = Jvm.exec) (hb : c.code = cc) {own : String} {index : Nat} {ty : FieldType} {cy : ClassId} (hown : s.vm.findClass own = some m.cls) (hclink : (Cond.classLink own index ("[" ++ (FieldType.array ty).toString)).before args s = true) (hover : va_AOA ty s) (harr : (Cond.arrayClass ty).before args s = true) (hcy : s.vm.findClass (FieldType.array ty).toString = some cy)
    (hK : va_K D cl tys s) (hP : va_P D cl (X ++ va_pl L f) H) (hD : va_D A (X ++ va_pl L f)) (hS : va_S A H0 H locs) (hA : ∀ q, H0.size ≤ q → A q) {n k : Int32} {N' K' : Nat} {z : vp_A} (hn : ¬ n < 0) (hk : ¬ k < 0) (hN : n.toNatClampNeg = N') (hM : k.toNatClampNeg = K')
    (hb1 : N' * 4 ≤ 536870912) (hb2 : K' * componentBytes ty ≤ 536870912) (hb3 : K' ≤ 536870912) (hdf : fits ty (defaultValue ty) = true) (hdd : (defaultValue ty).isDefault = true) (hcells : cells + (1 + N') ≤ R.cells) (hslots : slots + (N' + N' * K') ≤ R.slots) (hz : ∀ c : ClassId, Jvm.Free.Multi.innerC c K' (defaultValue ty) = vp_cell c z) (hdg : decode cc pc = .ok (.multianewarray index 2, 4))
    (kk : ∀ (q : Nat) (r : Nat → Nat) (cA : ClassId) (H1 : Heap), (∀ i j : Nat, i < N' → j < N' → r i = r j → i = j) → (∀ i : Nat, i < N' → r i ∉ L) → va_K D cl (tys ++ [(cA, .array ty)]) s →
      va_P D cl ((X ++ [(q, .inl (cA, N', .inr (.inr (.inr (.inr (fun i => if i < N' then some (r i) else none))))))]) ++ va_pl (L ++ (List.range N').map r) (vr_up f ((List.range N').map r) (.inl (cy, z)))) H1 → va_D A ((X ++ [(q, .inl (cA, N', .inr (.inr (.inr (.inr (fun i => if i < N' then some (r i) else none))))))]) ++ va_pl (L ++ (List.range N').map r) (vr_up f ((List.range N').map r) (.inl (cy, z)))) → va_S A H0 H1 locs →
      W p l e R s m args below meth c H1 locs (cells + 1 + N') (slots + N' + N' * K') Q (F0 m (pc + 4) ls (.ref q :: rest))) : W p l e R s m args below meth c H locs cells slots Q (F0 m pc ls (.int k :: .int n :: rest)) := by
  subst hN
  subst hM
  intro T hT Xs
  obtain ⟨vm₁, cA, comp, -, fA, fC, hO, -, X', step⟩ := Xs.multianewarray2F hexec hown hclink (va_AOA.use hover) harr (g := F0 m pc ls (.int k :: .int n :: rest)) rfl (by rw [hb]; exact hdg) rfl hn hk hb1 hb2 hb3 hdf hdd hcells hslots
  have ec : some cy = some comp := hcy.symm.trans fC
  cases ec
  generalize hF : Jvm.Free.Multi.fill (T.setVm vm₁) cA cy n.toNatClampNeg k.toNatClampNeg (defaultValue ty) n.toNatClampNeg = F at X' step
  have hTh : (T.setVm vm₁).heap = H := hT
  obtain ⟨f1, f2, -, -⟩ := Jvm.Free.Multi.fill_facts (T.setVm vm₁) cA cy n.toNatClampNeg k.toNatClampNeg (defaultValue ty) n.toNatClampNeg
  rw [hF, hTh] at f1 f2
  have hold : ∀ x : Nat, x < H.size → F.heap[x]? = H[x]? := fun x hx => by
    have := Jvm.Free.Multi.fill_old (T.setVm vm₁) cA cy n.toNatClampNeg k.toNatClampNeg (defaultValue ty) (a := x) (by rw [hTh]; exact hx) n.toNatClampNeg
    rw [hF, hTh] at this
    exact this
  have hrow : ∀ j : Nat, j < n.toNatClampNeg → F.heap[H.size + 1 + j]? = some (vp_cell cy z) := fun j hj => by
    have := Jvm.Free.Multi.fill_inner (T.setVm vm₁) cA cy n.toNatClampNeg k.toNatClampNeg (defaultValue ty) n.toNatClampNeg j hj
    rw [hF, hTh, hz] at this
    exact this
  have hout : Jvm.Free.Multi.outerC cA n.toNatClampNeg H.size n.toNatClampNeg = vp_cell cA (n.toNatClampNeg, .inr (.inr (.inr (.inr (fun i => if i < n.toNatClampNeg then some (H.size + 1 + i) else none))))) := by
    rw [vp_cell_q]
    exact vr_outer cA n.toNatClampNeg H.size n.toNatClampNeg
  rw [hout] at f2
  have hlt : ∀ a, a ∈ L → a < H.size := fun a ha => by
    obtain ⟨k9, hk9⟩ := va_pl_get (X := X) (f := f) ha
    exact (hP k9 _ hk9).lt
  have hnl : ∀ i : Nat, i < n.toNatClampNeg → H.size + 1 + i ∉ L := fun i _ h => by
    have := hlt _ h
    omega
  have hnm : ∀ a, a ∈ (List.range n.toNatClampNeg).map (fun i => H.size + 1 + i) → a ∉ L := fun a ha h => by
    obtain ⟨i, -, rfl⟩ := List.mem_map.mp ha
    have := hlt _ h
    omega
  have hP0 : va_P D cl (X ++ va_pl L f) F.heap := hP.kept (fun k9 x hx => hold x.1 ((hP k9 x hx).lt))
  have hP1 : va_P D cl ((X ++ va_pl L f) ++ [(H.size, .inl (cA, n.toNatClampNeg, .inr (.inr (.inr (.inr (fun i => if i < n.toNatClampNeg then some (H.size + 1 + i) else none))))))]) F.heap := hP0.app (fun k9 x hx => by
    have h0 : k9 < 1 := (List.getElem?_eq_some_iff.mp hx).1
    rw [show k9 = 0 by omega] at hx
    cases hx
    exact f2)
  have hP2 : va_P D cl (((X ++ va_pl L f) ++ [(H.size, .inl (cA, n.toNatClampNeg, .inr (.inr (.inr (.inr (fun i => if i < n.toNatClampNeg then some (H.size + 1 + i) else none))))))]) ++ ((List.range n.toNatClampNeg).map (fun i => H.size + 1 + i)).map (fun a => (a, .inl (cy, z)))) F.heap := hP1.app (fun k9 x hx => by
    obtain ⟨a, ha, rfl⟩ := List.mem_map.mp (List.mem_of_getElem? hx)
    obtain ⟨i, hi, rfl⟩ := List.mem_map.mp ha
    exact hrow i (List.mem_range.mp hi))
  have hD2 : va_D A (((X ++ va_pl L f) ++ [(H.size, .inl (cA, n.toNatClampNeg, .inr (.inr (.inr (.inr (fun i => if i < n.toNatClampNeg then some (H.size + 1 + i) else none))))))]) ++ ((List.range n.toNatClampNeg).map (fun i => H.size + 1 + i)).map (fun a => (a, .inl (cy, z)))) := by
    have hD1 := hD.push (e := .inl (cA, n.toNatClampNeg, .inr (.inr (.inr (.inr (fun i => if i < n.toNatClampNeg then some (H.size + 1 + i) else none)))))) hP rfl (hA _ hS.1)
    generalize hW1 : (X ++ va_pl L f) ++ [(H.size, .inl (cA, n.toNatClampNeg, .inr (.inr (.inr (.inr (fun i => if i < n.toNatClampNeg then some (H.size + 1 + i) else none))))))] = W1 at hD1 hP1 ⊢
    have hle : ∀ (k9 : Nat) (x : Nat × va_E), W1[k9]? = some x → x.1 ≤ H.size := fun k9 x hx => by
      rw [← hW1] at hx
      by_cases hl : k9 < (X ++ va_pl L f).length
      · rw [List.getElem?_append_left hl] at hx
        exact Nat.le_of_lt ((hP k9 x hx).lt)
      · rw [List.getElem?_append_right (by omega)] at hx
        have h0 : k9 - (X ++ va_pl L f).length < 1 := (List.getElem?_eq_some_iff.mp hx).1
        rw [show k9 - (X ++ va_pl L f).length = 0 by omega] at hx
        cases hx
        exact Nat.le_refl _
    have hr : ∀ (k9 : Nat) (x : Nat × va_E), (((List.range n.toNatClampNeg).map (fun i => H.size + 1 + i)).map (fun a => ((a, .inl (cy, z)) : Nat × va_E)))[k9]? = some x → x.1 = H.size + 1 + k9 := fun k9 x hx => by
      rw [List.getElem?_map, List.getElem?_map] at hx
      by_cases h9 : k9 < n.toNatClampNeg
      · rw [List.getElem?_range h9] at hx
        cases hx
        rfl
      · have hn0 : (List.range n.toNatClampNeg)[k9]? = none := List.getElem?_eq_none (by rw [List.length_range]; omega)
        rw [hn0] at hx
        cases hx
    refine ⟨fun i j x y hi hj hxy => ?_, fun k9 x hx => ?_⟩
    · by_cases h1 : i < W1.length <;> by_cases h2 : j < W1.length
      · rw [List.getElem?_append_left h1] at hi
        rw [List.getElem?_append_left h2] at hj
        exact hD1.1 i j x y hi hj hxy
      · rw [List.getElem?_append_left h1] at hi
        rw [List.getElem?_append_right (by omega)] at hj
        have := hle _ _ hi
        have := hr _ _ hj
        omega
      · rw [List.getElem?_append_right (by omega)] at hi
        rw [List.getElem?_append_left h2] at hj
        have := hle _ _ hj
        have := hr _ _ hi
        omega
      · rw [List.getElem?_append_right (by omega)] at hi hj
        have := hr _ _ hi
        have := hr _ _ hj
        omega
    · by_cases h1 : k9 < W1.length
      · rw [List.getElem?_append_left h1] at hx
        exact hD1.2 k9 x hx
      · rw [List.getElem?_append_right (by omega)] at hx
        have := hr _ _ hx
        exact hA _ (by have := hS.1; omega)
  have hAr : ArrOfT s cA (.array ty) := fun N9 z9 => by
    obtain ⟨-, k9, hk9, cm9, hkk9⟩ := (hO 0 0 0).1
    exact ⟨(fun q hq => by cases hq), k9, hk9, cm9, hkk9⟩
  have hK2 : va_K D cl (tys ++ [(cA, .array ty)]) s := ⟨hK.1, fun k9 x hx => by
    by_cases hl : k9 < tys.length
    · rw [List.getElem?_append_left hl] at hx
      exact hK.2 k9 x hx
    · rw [List.getElem?_append_right (by omega)] at hx
      have h0 : k9 - tys.length < 1 := (List.getElem?_eq_some_iff.mp hx).1
      rw [show k9 - tys.length = 0 by omega] at hx
      cases hx
      exact ⟨hAr, fA⟩⟩
  obtain ⟨t, a1, b1⟩ := kk H.size (fun i => H.size + 1 + i) cA F.heap (fun i j _ _ h => by have h9 : H.size + 1 + i = H.size + 1 + j := h; omega) hnl hK2 (by rw [← vr_rows hnm]; exact vr_lay hP2) (by rw [← vr_rows hnm]; exact vr_layD hD2) ⟨by rw [f1]; have := hS.1; omega, fun x h1 h2 => (hold x (Nat.lt_of_lt_of_le h1 hS.1)).trans (hS.2.1 x h1 h2), hS.2.2⟩ F rfl X'
  refine ⟨t, step t ?_, b1⟩
  have e : T.heap.size = H.size := by rw [hT]
  rw [e]
  exact a1
end VGM
/-! ===== END ===== -/

def RX0 : String := "VillageCuts$Broad"
def TX0 : u_T := fun k => match k with
  | 0 => ("VillageCuts$Plain", "kind", "I", true)
  | 1 => ("VillageCuts$Plain", "what", "[I", true)
  | 2 => ("VillageCuts$Plain", "digit", "[I", true)
  | 3 => ("VillageCuts$Plain", "need", "[[I", true)
  | _ => ("VillageCuts$Plain", "things", "I", false)
def tyX0 : Nat → FieldType := fun k => match k with
  | 0 => .int
  | 1 => .array .int
  | 2 => .array .int
  | 3 => .array (.array .int)
  | _ => .int
abbrev wsX00 : List Cond := u_ws RX0 TX0 5
theorem nmX0 : ∀ a, a < 5 → ∀ b, b < 5 → a ≠ b → (TX0 a).2.1 ≠ (TX0 b).2.1 := by decide +kernel
theorem tyX0_ok : ∀ k, k < 5 → parseFieldDescriptor (TX0 k).2.2.1 = some (tyX0 k) := by decide +kernel
abbrev cX0_init : ByteArray := prog_2_method_1_code
def yX0_init : MethodName := ⟨RX0, "<init>", "(I)V"⟩
abbrev cX0_toldOf : ByteArray := prog_2_method_2_code
def yX0_toldOf : MethodName := ⟨RX0, "toldOf", "(LVillageCuts$Trace;I)I"⟩
def RX1 : String := "VillageCuts$Doubled"
def TX1 : u_T := fun k => match k with
  | 0 => ("VillageCuts$Plain", "kind", "I", true)
  | 1 => ("VillageCuts$Plain", "what", "[I", true)
  | 2 => ("VillageCuts$Plain", "digit", "[I", true)
  | 3 => ("VillageCuts$Plain", "need", "[[I", true)
  | _ => ("VillageCuts$Plain", "things", "I", false)
def tyX1 : Nat → FieldType := fun k => match k with
  | 0 => .int
  | 1 => .array .int
  | 2 => .array .int
  | 3 => .array (.array .int)
  | _ => .int
abbrev wsX10 : List Cond := u_ws RX1 TX1 5
theorem nmX1 : ∀ a, a < 5 → ∀ b, b < 5 → a ≠ b → (TX1 a).2.1 ≠ (TX1 b).2.1 := by decide +kernel
theorem tyX1_ok : ∀ k, k < 5 → parseFieldDescriptor (TX1 k).2.2.1 = some (tyX1 k) := by decide +kernel
abbrev cX1_init : ByteArray := prog_3_method_1_code
def yX1_init : MethodName := ⟨RX1, "<init>", "()V"⟩
abbrev cX1_toldOf : ByteArray := prog_3_method_2_code
def yX1_toldOf : MethodName := ⟨RX1, "toldOf", "(LVillageCuts$Trace;I)I"⟩
abbrev cX1_rungAt : ByteArray := prog_3_method_3_code
def yX1_rungAt : MethodName := ⟨RX1, "rungAt", "(LVillageCuts$Trace;I)I"⟩
def RX2 : String := "VillageCuts$Land"
def TX2 : u_T := fun k => match k with
  | 0 => ("VillageCuts$Land", "villages", "[LVillageCuts$Plain;", true)
  | 1 => ("VillageCuts$Land", "letters", "[LVillageCuts$Letter;", true)
  | 2 => ("VillageCuts$Land", "firstRun", "[I", true)
  | 3 => ("VillageCuts$Land", "done", "[I", true)
  | 4 => ("VillageCuts$Land", "size", "I", false)
  | _ => ("VillageCuts$Land", "things", "I", false)
def tyX2 : Nat → FieldType := fun k => match k with
  | 0 => .array (.object "VillageCuts$Plain")
  | 1 => .array (.object "VillageCuts$Letter")
  | 2 => .array .int
  | 3 => .array .int
  | 4 => .int
  | _ => .int
abbrev wsX20 : List Cond := u_ws RX2 TX2 6
theorem nmX2 : ∀ a, a < 6 → ∀ b, b < 6 → a ≠ b → (TX2 a).2.1 ≠ (TX2 b).2.1 := by decide +kernel
theorem tyX2_ok : ∀ k, k < 6 → parseFieldDescriptor (TX2 k).2.2.1 = some (tyX2 k) := by decide +kernel
abbrev cX2_init : ByteArray := prog_4_method_1_code
def yX2_init : MethodName := ⟨RX2, "<init>", "()V"⟩
abbrev cX2_hasVillage : ByteArray := prog_4_method_2_code
def yX2_hasVillage : MethodName := ⟨RX2, "hasVillage", "(I)Z"⟩
abbrev cX2_hasThing : ByteArray := prog_4_method_3_code
def yX2_hasThing : MethodName := ⟨RX2, "hasThing", "(II)Z"⟩
abbrev cX2_settle : ByteArray := prog_4_method_4_code
def yX2_settle : MethodName := ⟨RX2, "settle", "(I)V"⟩
abbrev cX2_addThing : ByteArray := prog_4_method_5_code
def yX2_addThing : MethodName := ⟨RX2, "addThing", "(II)V"⟩
abbrev cX2_noteLetter : ByteArray := prog_4_method_6_code
def yX2_noteLetter : MethodName := ⟨RX2, "noteLetter", "(III)V"⟩
abbrev cX2_leastAmiss : ByteArray := prog_4_method_7_code
def yX2_leastAmiss : MethodName := ⟨RX2, "leastAmiss", "()I"⟩
abbrev cX2_isOrdered : ByteArray := prog_4_method_8_code
def yX2_isOrdered : MethodName := ⟨RX2, "isOrdered", "()Z"⟩
abbrev cX2_firstThatGoesOn : ByteArray := prog_4_method_9_code
def yX2_firstThatGoesOn : MethodName := ⟨RX2, "firstThatGoesOn", "([I)I"⟩
abbrev cX2_noteNeed : ByteArray := prog_4_method_10_code
def yX2_noteNeed : MethodName := ⟨RX2, "noteNeed", "(II)V"⟩
abbrev cX2_raise : ByteArray := prog_4_method_11_code
def yX2_raise : MethodName := ⟨RX2, "raise", "([I[I)V"⟩
abbrev cX2_isAhead : ByteArray := prog_4_method_12_code
def yX2_isAhead : MethodName := ⟨RX2, "isAhead", "(IIII)Z"⟩
abbrev cX2_goesOn : ByteArray := prog_4_method_13_code
def yX2_goesOn : MethodName := ⟨RX2, "goesOn", "([II)Z"⟩
abbrev cX2_thatGoOn : ByteArray := prog_4_method_14_code
def yX2_thatGoOn : MethodName := ⟨RX2, "thatGoOn", "([I)I"⟩
abbrev cX2_close : ByteArray := prog_4_method_15_code
def yX2_close : MethodName := ⟨RX2, "close", "([I[I)V"⟩
abbrev cX2_canBe : ByteArray := prog_4_method_16_code
def yX2_canBe : MethodName := ⟨RX2, "canBe", "([I)Z"⟩
abbrev cX2_sumOf : ByteArray := prog_4_method_17_code
def yX2_sumOf : MethodName := ⟨RX2, "sumOf", "([I)I"⟩
abbrev cX2_underWay : ByteArray := prog_4_method_18_code
def yX2_underWay : MethodName := ⟨RX2, "underWay", "([I)I"⟩
abbrev cX2_thingsIn : ByteArray := prog_4_method_19_code
def yX2_thingsIn : MethodName := ⟨RX2, "thingsIn", "([I)I"⟩
abbrev cX2_lettersSent : ByteArray := prog_4_method_20_code
def yX2_lettersSent : MethodName := ⟨RX2, "lettersSent", "()I"⟩
def RX3 : String := "VillageCuts$Letter"
def TX3 : u_T := fun k => match k with
  | 0 => ("VillageCuts$Letter", "sent", "I", false)
  | 1 => ("VillageCuts$Letter", "sender", "I", false)
  | 2 => ("VillageCuts$Letter", "sentAs", "I", false)
  | 3 => ("VillageCuts$Letter", "got", "I", false)
  | 4 => ("VillageCuts$Letter", "getter", "I", false)
  | _ => ("VillageCuts$Letter", "gotAs", "I", false)
def tyX3 : Nat → FieldType := fun k => match k with
  | 0 => .int
  | 1 => .int
  | 2 => .int
  | 3 => .int
  | 4 => .int
  | _ => .int
abbrev wsX30 : List Cond := u_ws RX3 TX3 6
theorem nmX3 : ∀ a, a < 6 → ∀ b, b < 6 → a ≠ b → (TX3 a).2.1 ≠ (TX3 b).2.1 := by decide +kernel
theorem tyX3_ok : ∀ k, k < 6 → parseFieldDescriptor (TX3 k).2.2.1 = some (tyX3 k) := by decide +kernel
abbrev cX3_init : ByteArray := prog_5_method_1_code
def yX3_init : MethodName := ⟨RX3, "<init>", "()V"⟩
abbrev cX3_isAmiss : ByteArray := prog_5_method_2_code
def yX3_isAmiss : MethodName := ⟨RX3, "isAmiss", "()Z"⟩
abbrev cX3_isSentIn : ByteArray := prog_5_method_3_code
def yX3_isSentIn : MethodName := ⟨RX3, "isSentIn", "([I)Z"⟩
abbrev cX3_isGotIn : ByteArray := prog_5_method_4_code
def yX3_isGotIn : MethodName := ⟨RX3, "isGotIn", "([I)Z"⟩
def RX4 : String := "VillageCuts$Plain"
def TX4 : u_T := fun k => match k with
  | 0 => ("VillageCuts$Plain", "kind", "I", true)
  | 1 => ("VillageCuts$Plain", "what", "[I", true)
  | 2 => ("VillageCuts$Plain", "digit", "[I", true)
  | 3 => ("VillageCuts$Plain", "need", "[[I", true)
  | _ => ("VillageCuts$Plain", "things", "I", false)
def tyX4 : Nat → FieldType := fun k => match k with
  | 0 => .int
  | 1 => .array .int
  | 2 => .array .int
  | 3 => .array (.array .int)
  | _ => .int
abbrev wsX40 : List Cond := u_ws RX4 TX4 5
theorem nmX4 : ∀ a, a < 5 → ∀ b, b < 5 → a ≠ b → (TX4 a).2.1 ≠ (TX4 b).2.1 := by decide +kernel
theorem tyX4_ok : ∀ k, k < 5 → parseFieldDescriptor (TX4 k).2.2.1 = some (tyX4 k) := by decide +kernel
abbrev cX4_init : ByteArray := prog_6_method_1_code
def yX4_init : MethodName := ⟨RX4, "<init>", "(I)V"⟩
abbrev cX4_valueAt : ByteArray := prog_6_method_2_code
def yX4_valueAt : MethodName := ⟨RX4, "valueAt", "(I)I"⟩
abbrev cX4_worthAs : ByteArray := prog_6_method_3_code
def yX4_worthAs : MethodName := ⟨RX4, "worthAs", "(II)I"⟩
abbrev cX4_worthAt : ByteArray := prog_6_method_4_code
def yX4_worthAt : MethodName := ⟨RX4, "worthAt", "(I)I"⟩
abbrev cX4_needInAll : ByteArray := prog_6_method_5_code
def yX4_needInAll : MethodName := ⟨RX4, "needInAll", "(I)I"⟩
abbrev cX4_toldPlainly : ByteArray := prog_6_method_6_code
def yX4_toldPlainly : MethodName := ⟨RX4, "toldPlainly", "(LVillageCuts$Trace;I)I"⟩
abbrev cX4_toldOf : ByteArray := prog_6_method_7_code
def yX4_toldOf : MethodName := ⟨RX4, "toldOf", "(LVillageCuts$Trace;I)I"⟩
abbrev cX4_rungAt : ByteArray := prog_6_method_8_code
def yX4_rungAt : MethodName := ⟨RX4, "rungAt", "(LVillageCuts$Trace;I)I"⟩
def RX5 : String := "VillageCuts$Sheet"
def TX5 : u_T := fun k => match k with
  | 0 => ("VillageCuts$Sheet", "cells", "[I", true)
  | 1 => ("VillageCuts$Sheet", "hasRow", "Z", false)
  | 2 => ("VillageCuts$Sheet", "lane", "I", false)
  | _ => ("VillageCuts$Sheet", "length", "I", false)
def tyX5 : Nat → FieldType := fun k => match k with
  | 0 => .array .int
  | 1 => .boolean
  | 2 => .int
  | _ => .int
abbrev wsX50 : List Cond := u_ws RX5 TX5 4
theorem nmX5 : ∀ a, a < 4 → ∀ b, b < 4 → a ≠ b → (TX5 a).2.1 ≠ (TX5 b).2.1 := by decide +kernel
theorem tyX5_ok : ∀ k, k < 4 → parseFieldDescriptor (TX5 k).2.2.1 = some (tyX5 k) := by decide +kernel
abbrev cX5_init : ByteArray := prog_7_method_1_code
def yX5_init : MethodName := ⟨RX5, "<init>", "()V"⟩
abbrev cX5_renew : ByteArray := prog_7_method_2_code
def yX5_renew : MethodName := ⟨RX5, "renew", "(II)V"⟩
abbrev cX5_write : ByteArray := prog_7_method_3_code
def yX5_write : MethodName := ⟨RX5, "write", "(II)V"⟩
abbrev cX5_hasCells : ByteArray := prog_7_method_4_code
def yX5_hasCells : MethodName := ⟨RX5, "hasCells", "(II)Z"⟩
abbrev cX5_faultOfTaking : ByteArray := prog_7_method_5_code
def yX5_faultOfTaking : MethodName := ⟨RX5, "faultOfTaking", "(III)I"⟩
def RX6 : String := "VillageCuts$Survey"
def TX6 : u_T := fun k => match k with
  | 0 => ("VillageCuts$Survey", "strides", "[I", true)
  | 1 => ("VillageCuts$Survey", "villages", "I", true)
  | 2 => ("VillageCuts$Survey", "places", "I", true)
  | 3 => ("VillageCuts$Survey", "ways", "[J", true)
  | 4 => ("VillageCuts$Survey", "sums", "[I", true)
  | 5 => ("VillageCuts$Survey", "sizes", "[I", true)
  | 6 => ("VillageCuts$Survey", "onward", "[I", true)
  | _ => ("VillageCuts$Survey", "reached", "[Z", true)
def tyX6 : Nat → FieldType := fun k => match k with
  | 0 => .array .int
  | 1 => .int
  | 2 => .int
  | 3 => .array .long
  | 4 => .array .int
  | 5 => .array .int
  | 6 => .array .int
  | _ => .array .boolean
abbrev wsX60 : List Cond := u_ws RX6 TX6 8
theorem nmX6 : ∀ a, a < 8 → ∀ b, b < 8 → a ≠ b → (TX6 a).2.1 ≠ (TX6 b).2.1 := by decide +kernel
theorem tyX6_ok : ∀ k, k < 8 → parseFieldDescriptor (TX6 k).2.2.1 = some (tyX6 k) := by decide +kernel
abbrev cX6_init : ByteArray := prog_8_method_1_code
def yX6_init : MethodName := ⟨RX6, "<init>", "(LVillageCuts$Land;)V"⟩
abbrev cX6_walk : ByteArray := prog_8_method_2_code
def yX6_walk : MethodName := ⟨RX6, "walk", "(LVillageCuts$Land;)V"⟩
abbrev cX6_passWays : ByteArray := prog_8_method_3_code
def yX6_passWays : MethodName := ⟨RX6, "passWays", "(I)V"⟩
abbrev cX6_goesOnward : ByteArray := prog_8_method_4_code
def yX6_goesOnward : MethodName := ⟨RX6, "goesOnward", "(II)Z"⟩
abbrev cX6_turn : ByteArray := prog_8_method_5_code
def yX6_turn : MethodName := ⟨RX6, "turn", "(LVillageCuts$Land;[I)V"⟩
abbrev cX6_cutsFrom : ByteArray := prog_8_method_6_code
def yX6_cutsFrom : MethodName := ⟨RX6, "cutsFrom", "(I)I"⟩
abbrev cX6_runsInAll : ByteArray := prog_8_method_7_code
def yX6_runsInAll : MethodName := ⟨RX6, "runsInAll", "()J"⟩
abbrev cX6_fewestOf : ByteArray := prog_8_method_8_code
def yX6_fewestOf : MethodName := ⟨RX6, "fewestOf", "(I)I"⟩
abbrev cX6_canGoAround : ByteArray := prog_8_method_9_code
def yX6_canGoAround : MethodName := ⟨RX6, "canGoAround", "(I)Z"⟩
def RX7 : String := "VillageCuts$Text"
def TX7 : u_T := fun k => match k with
  | 0 => ("VillageCuts$Text", "sheet", "LVillageCuts$Sheet;", true)
  | 1 => ("VillageCuts$Text", "from", "I", true)
  | 2 => ("VillageCuts$Text", "length", "I", true)
  | _ => ("VillageCuts$Text", "place", "I", false)
def tyX7 : Nat → FieldType := fun k => match k with
  | 0 => .object "VillageCuts$Sheet"
  | 1 => .int
  | 2 => .int
  | _ => .int
abbrev wsX70 : List Cond := u_ws RX7 TX7 4
theorem nmX7 : ∀ a, a < 4 → ∀ b, b < 4 → a ≠ b → (TX7 a).2.1 ≠ (TX7 b).2.1 := by decide +kernel
theorem tyX7_ok : ∀ k, k < 4 → parseFieldDescriptor (TX7 k).2.2.1 = some (tyX7 k) := by decide +kernel
abbrev cX7_init : ByteArray := prog_9_method_1_code
def yX7_init : MethodName := ⟨RX7, "<init>", "(LVillageCuts$Sheet;II)V"⟩
abbrev cX7_isReadInto : ByteArray := prog_9_method_2_code
def yX7_isReadInto : MethodName := ⟨RX7, "isReadInto", "(LVillageCuts$Land;)Z"⟩
abbrev cX7_isVillageRead : ByteArray := prog_9_method_3_code
def yX7_isVillageRead : MethodName := ⟨RX7, "isVillageRead", "(LVillageCuts$Land;)Z"⟩
abbrev cX7_code : ByteArray := prog_9_method_4_code
def yX7_code : MethodName := ⟨RX7, "code", "()I"⟩
abbrev cX7_kindOf : ByteArray := prog_9_method_5_code
def yX7_kindOf : MethodName := ⟨RX7, "kindOf", "(I)I"⟩
abbrev cX7_whatOf : ByteArray := prog_9_method_6_code
def yX7_whatOf : MethodName := ⟨RX7, "whatOf", "(I)I"⟩
abbrev cX7_greatestDigit : ByteArray := prog_9_method_7_code
def yX7_greatestDigit : MethodName := ⟨RX7, "greatestDigit", "(I)I"⟩
def RX8 : String := "VillageCuts$Trace"
def TX8 : u_T := fun k => match k with
  | _ => ("VillageCuts$Trace", "mark", "I", false)
def tyX8 : Nat → FieldType := fun k => match k with
  | _ => .int
abbrev wsX80 : List Cond := u_ws RX8 TX8 1
theorem nmX8 : ∀ a, a < 1 → ∀ b, b < 1 → a ≠ b → (TX8 a).2.1 ≠ (TX8 b).2.1 := by decide +kernel
theorem tyX8_ok : ∀ k, k < 1 → parseFieldDescriptor (TX8 k).2.2.1 = some (tyX8 k) := by decide +kernel
abbrev cX8_init : ByteArray := prog_10_method_1_code
def yX8_init : MethodName := ⟨RX8, "<init>", "()V"⟩
abbrev cX8_leave : ByteArray := prog_10_method_2_code
def yX8_leave : MethodName := ⟨RX8, "leave", "(I)V"⟩
def RX9 : String := "VillageCuts"
def TX9 : u_T := fun k => match k with
  | 0 => ("VillageCuts", "sheets", "[LVillageCuts$Sheet;", true)
  | 1 => ("VillageCuts", "footprints", "LVillageCuts$Trace;", true)
  | 2 => ("VillageCuts", "toldCut", "[I", true)
  | 3 => ("VillageCuts", "work", "[I", true)
  | 4 => ("VillageCuts", "readingCuts", "[[I", true)
  | 5 => ("VillageCuts", "readingSums", "[I", true)
  | 6 => ("VillageCuts", "readings", "I", false)
  | 7 => ("VillageCuts", "lastFault", "I", false)
  | 8 => ("VillageCuts", "country", "LVillageCuts$Land;", false)
  | _ => ("VillageCuts", "survey", "LVillageCuts$Survey;", false)
def tyX9 : Nat → FieldType := fun k => match k with
  | 0 => .array (.object "VillageCuts$Sheet")
  | 1 => .object "VillageCuts$Trace"
  | 2 => .array .int
  | 3 => .array .int
  | 4 => .array (.array .int)
  | 5 => .array .int
  | 6 => .int
  | 7 => .int
  | 8 => .object "VillageCuts$Land"
  | _ => .object "VillageCuts$Survey"
abbrev wsX90 : List Cond := u_ws RX9 TX9 10
theorem nmX9 : ∀ a, a < 10 → ∀ b, b < 10 → a ≠ b → (TX9 a).2.1 ≠ (TX9 b).2.1 := by decide +kernel
theorem tyX9_ok : ∀ k, k < 10 → parseFieldDescriptor (TX9 k).2.2.1 = some (tyX9 k) := by decide +kernel
abbrev cX9_init : ByteArray := prog_1_method_1_code
def yX9_init : MethodName := ⟨RX9, "<init>", "()V"⟩
abbrev cX9_land : ByteArray := prog_1_method_2_code
def yX9_land : MethodName := ⟨RX9, "land", "(IIII)I"⟩
abbrev cX9_ofVillage : ByteArray := prog_1_method_3_code
def yX9_ofVillage : MethodName := ⟨RX9, "ofVillage", "(II)I"⟩
abbrev cX9_thing : ByteArray := prog_1_method_4_code
def yX9_thing : MethodName := ⟨RX9, "thing", "(III)I"⟩
abbrev cX9_ahead : ByteArray := prog_1_method_5_code
def yX9_ahead : MethodName := ⟨RX9, "ahead", "(IIII)I"⟩
abbrev cX9_happen : ByteArray := prog_1_method_6_code
def yX9_happen : MethodName := ⟨RX9, "happen", "(I)I"⟩
abbrev cX9_anew : ByteArray := prog_1_method_7_code
def yX9_anew : MethodName := ⟨RX9, "anew", "()I"⟩
abbrev cX9_cut : ByteArray := prog_1_method_8_code
def yX9_cut : MethodName := ⟨RX9, "cut", "(IIII)I"⟩
abbrev cX9_now : ByteArray := prog_1_method_9_code
def yX9_now : MethodName := ⟨RX9, "now", "(I)I"⟩
abbrev cX9_tale : ByteArray := prog_1_method_10_code
def yX9_tale : MethodName := ⟨RX9, "tale", "(IIIII)I"⟩
abbrev cX9_cuts : ByteArray := prog_1_method_11_code
def yX9_cuts : MethodName := ⟨RX9, "cuts", "()I"⟩
abbrev cX9_runs : ByteArray := prog_1_method_12_code
def yX9_runs : MethodName := ⟨RX9, "runs", "()J"⟩
abbrev cX9_first : ByteArray := prog_1_method_13_code
def yX9_first : MethodName := ⟨RX9, "first", "(I)I"⟩
abbrev cX9_some : ByteArray := prog_1_method_14_code
def yX9_some : MethodName := ⟨RX9, "some", "(I)I"⟩
abbrev cX9_every : ByteArray := prog_1_method_15_code
def yX9_every : MethodName := ⟨RX9, "every", "(I)I"⟩
abbrev cX9_reading : ByteArray := prog_1_method_16_code
def yX9_reading : MethodName := ⟨RX9, "reading", "(IIII)I"⟩
abbrev cX9_back : ByteArray := prog_1_method_17_code
def yX9_back : MethodName := ⟨RX9, "back", "(I)I"⟩
abbrev cX9_kinds : ByteArray := prog_1_method_18_code
def yX9_kinds : MethodName := ⟨RX9, "kinds", "(I)I"⟩
abbrev cX9_odds : ByteArray := prog_1_method_19_code
def yX9_odds : MethodName := ⟨RX9, "odds", "(II)J"⟩
abbrev cX9_sheet : ByteArray := prog_1_method_20_code
def yX9_sheet : MethodName := ⟨RX9, "sheet", "(III)I"⟩
abbrev cX9_lose : ByteArray := prog_1_method_21_code
def yX9_lose : MethodName := ⟨RX9, "lose", "(I)I"⟩
abbrev cX9_put : ByteArray := prog_1_method_22_code
def yX9_put : MethodName := ⟨RX9, "put", "(III)I"⟩
abbrev cX9_cell : ByteArray := prog_1_method_23_code
def yX9_cell : MethodName := ⟨RX9, "cell", "(III)J"⟩
abbrev cX9_copy : ByteArray := prog_1_method_24_code
def yX9_copy : MethodName := ⟨RX9, "copy", "(IIIII)I"⟩
abbrev cX9_tell : ByteArray := prog_1_method_25_code
def yX9_tell : MethodName := ⟨RX9, "tell", "(I)I"⟩
abbrev cX9_ring : ByteArray := prog_1_method_26_code
def yX9_ring : MethodName := ⟨RX9, "ring", "(I)I"⟩
abbrev cX9_as : ByteArray := prog_1_method_27_code
def yX9_as : MethodName := ⟨RX9, "as", "(II)I"⟩
abbrev cX9_trace : ByteArray := prog_1_method_28_code
def yX9_trace : MethodName := ⟨RX9, "trace", "()I"⟩
abbrev cX9_fault : ByteArray := prog_1_method_29_code
def yX9_fault : MethodName := ⟨RX9, "fault", "()I"⟩
abbrev cX9_many : ByteArray := prog_1_method_30_code
def yX9_many : MethodName := ⟨RX9, "many", "(I)I"⟩
abbrev cX9_isSheet : ByteArray := prog_1_method_31_code
def yX9_isSheet : MethodName := ⟨RX9, "isSheet", "(I)Z"⟩
abbrev cX9_isLane : ByteArray := prog_1_method_32_code
def yX9_isLane : MethodName := ⟨RX9, "isLane", "(I)Z"⟩
abbrev cX9_isSum : ByteArray := prog_1_method_33_code
def yX9_isSum : MethodName := ⟨RX9, "isSum", "(I)Z"⟩
abbrev cX9_isOfVillage : ByteArray := prog_1_method_34_code
def yX9_isOfVillage : MethodName := ⟨RX9, "isOfVillage", "(I)Z"⟩
abbrev cX9_isQuestion : ByteArray := prog_1_method_35_code
def yX9_isQuestion : MethodName := ⟨RX9, "isQuestion", "(I)Z"⟩
abbrev cX9_isOfKind : ByteArray := prog_1_method_36_code
def yX9_isOfKind : MethodName := ⟨RX9, "isOfKind", "(LVillageCuts$Plain;I)Z"⟩
abbrev cX9_fallen : ByteArray := prog_1_method_37_code
def yX9_fallen : MethodName := ⟨RX9, "fallen", "(I)I"⟩
abbrev cX9_countOf : ByteArray := prog_1_method_38_code
def yX9_countOf : MethodName := ⟨RX9, "countOf", "([II)I"⟩
abbrev cX9_takeCut : ByteArray := prog_1_method_39_code
def yX9_takeCut : MethodName := ⟨RX9, "takeCut", "(IIIZ)I"⟩
abbrev cX9_endOfTale : ByteArray := prog_1_method_40_code
def yX9_endOfTale : MethodName := ⟨RX9, "endOfTale", "(LVillageCuts$Sheet;III)I"⟩
abbrev cX9_surveyed : ByteArray := prog_1_method_41_code
def yX9_surveyed : MethodName := ⟨RX9, "surveyed", "()LVillageCuts$Survey;"⟩
abbrev cX9_areReadingsSo : ByteArray := prog_1_method_42_code
def yX9_areReadingsSo : MethodName := ⟨RX9, "areReadingsSo", "(II)Z"⟩
abbrev cX9_commonDivisor : ByteArray := prog_1_method_43_code
def yX9_commonDivisor : MethodName := ⟨RX9, "commonDivisor", "(II)I"⟩
def RX10 : String := "VillageCutsModel"
def TX10 : u_T := fun k => match k with
  | 0 => ("VillageCutsModel", "fault", "I", false)
  | 1 => ("VillageCutsModel", "trace", "I", false)
  | 2 => ("VillageCutsModel", "sorts", "[I", true)
  | 3 => ("VillageCutsModel", "sheetLong", "[I", true)
  | 4 => ("VillageCutsModel", "cells", "[I", true)
  | 5 => ("VillageCutsModel", "villages", "I", false)
  | 6 => ("VillageCutsModel", "kind", "[I", true)
  | 7 => ("VillageCutsModel", "long1", "[I", true)
  | 8 => ("VillageCutsModel", "what", "[I", true)
  | 9 => ("VillageCutsModel", "figure", "[I", true)
  | 10 => ("VillageCutsModel", "aheads", "[I", true)
  | 11 => ("VillageCutsModel", "happened", "[I", true)
  | 12 => ("VillageCutsModel", "at", "I", false)
  | 13 => ("VillageCutsModel", "readVillages", "I", false)
  | 14 => ("VillageCutsModel", "readKind", "[I", true)
  | 15 => ("VillageCutsModel", "readLong", "[I", true)
  | 16 => ("VillageCutsModel", "readWhat", "[I", true)
  | 17 => ("VillageCutsModel", "readFigure", "[I", true)
  | 18 => ("VillageCutsModel", "readAheads", "[I", true)
  | 19 => ("VillageCutsModel", "sentBy", "[I", true)
  | 20 => ("VillageCutsModel", "gotBy", "[I", true)
  | 21 => ("VillageCutsModel", "cutOf", "[I", true)
  | 22 => ("VillageCutsModel", "greatest", "I", false)
  | 23 => ("VillageCutsModel", "ways", "[J", true)
  | 24 => ("VillageCutsModel", "readings", "I", false)
  | 25 => ("VillageCutsModel", "readCut", "[I", true)
  | _ => ("VillageCutsModel", "readSum", "[I", true)
def tyX10 : Nat → FieldType := fun k => match k with
  | 0 => .int
  | 1 => .int
  | 2 => .array .int
  | 3 => .array .int
  | 4 => .array .int
  | 5 => .int
  | 6 => .array .int
  | 7 => .array .int
  | 8 => .array .int
  | 9 => .array .int
  | 10 => .array .int
  | 11 => .array .int
  | 12 => .int
  | 13 => .int
  | 14 => .array .int
  | 15 => .array .int
  | 16 => .array .int
  | 17 => .array .int
  | 18 => .array .int
  | 19 => .array .int
  | 20 => .array .int
  | 21 => .array .int
  | 22 => .int
  | 23 => .array .long
  | 24 => .int
  | 25 => .array .int
  | _ => .array .int
abbrev wsX100 : List Cond := u_ws RX10 TX10 27
theorem nmX10 : ∀ a, a < 27 → ∀ b, b < 27 → a ≠ b → (TX10 a).2.1 ≠ (TX10 b).2.1 := by decide +kernel
theorem tyX10_ok : ∀ k, k < 27 → parseFieldDescriptor (TX10 k).2.2.1 = some (tyX10 k) := by decide +kernel
abbrev cX10_init : ByteArray := prog_12_method_1_code
def yX10_init : MethodName := ⟨RX10, "<init>", "()V"⟩
abbrev cX10_fails : ByteArray := prog_12_method_3_code
def yX10_fails : MethodName := ⟨RX10, "fails", "(I)I"⟩
abbrev cX10_lost : ByteArray := prog_12_method_4_code
def yX10_lost : MethodName := ⟨RX10, "lost", "(I)J"⟩
abbrev cX10_within : ByteArray := prog_12_method_5_code
def yX10_within : MethodName := ⟨RX10, "within", "(III)Z"⟩
abbrev cX10_isSheet : ByteArray := prog_12_method_6_code
def yX10_isSheet : MethodName := ⟨RX10, "isSheet", "(I)Z"⟩
abbrev cX10_isSort : ByteArray := prog_12_method_7_code
def yX10_isSort : MethodName := ⟨RX10, "isSort", "(I)Z"⟩
abbrev cX10_against : ByteArray := prog_12_method_8_code
def yX10_against : MethodName := ⟨RX10, "against", "(IIII)I"⟩
abbrev cX10_isVillage : ByteArray := prog_12_method_9_code
def yX10_isVillage : MethodName := ⟨RX10, "isVillage", "(I)Z"⟩
abbrev cX10_isThing : ByteArray := prog_12_method_10_code
def yX10_isThing : MethodName := ⟨RX10, "isThing", "(II)Z"⟩
abbrev cX10_digit : ByteArray := prog_12_method_11_code
def yX10_digit : MethodName := ⟨RX10, "digit", "(II)I"⟩
abbrev cX10_isSign : ByteArray := prog_12_method_12_code
def yX10_isSign : MethodName := ⟨RX10, "isSign", "(II)Z"⟩
abbrev cX10_land : ByteArray := prog_12_method_13_code
def yX10_land : MethodName := ⟨RX10, "land", "(IIII)I"⟩
abbrev cX10_takeLand : ByteArray := prog_12_method_14_code
def yX10_takeLand : MethodName := ⟨RX10, "takeLand", "()V"⟩
abbrev cX10_readLand : ByteArray := prog_12_method_15_code
def yX10_readLand : MethodName := ⟨RX10, "readLand", "(I)Z"⟩
abbrev cX10_readVillage : ByteArray := prog_12_method_16_code
def yX10_readVillage : MethodName := ⟨RX10, "readVillage", "(I)Z"⟩
abbrev cX10_isThingNext : ByteArray := prog_12_method_17_code
def yX10_isThingNext : MethodName := ⟨RX10, "isThingNext", "(I)Z"⟩
abbrev cX10_readThing : ByteArray := prog_12_method_18_code
def yX10_readThing : MethodName := ⟨RX10, "readThing", "(I)Z"⟩
abbrev cX10_firstAmiss : ByteArray := prog_12_method_19_code
def yX10_firstAmiss : MethodName := ⟨RX10, "firstAmiss", "()I"⟩
abbrev cX10_isCircle : ByteArray := prog_12_method_20_code
def yX10_isCircle : MethodName := ⟨RX10, "isCircle", "()Z"⟩
abbrev cX10_startAheads : ByteArray := prog_12_method_21_code
def yX10_startAheads : MethodName := ⟨RX10, "startAheads", "(II)V"⟩
abbrev cX10_goesOn : ByteArray := prog_12_method_22_code
def yX10_goesOn : MethodName := ⟨RX10, "goesOn", "()Z"⟩
abbrev cX10_takesFromAheads : ByteArray := prog_12_method_23_code
def yX10_takesFromAheads : MethodName := ⟨RX10, "takesFromAheads", "(I)Z"⟩
abbrev cX10_aheadOf : ByteArray := prog_12_method_24_code
def yX10_aheadOf : MethodName := ⟨RX10, "aheadOf", "(III)I"⟩
abbrev cX10_valueOf : ByteArray := prog_12_method_25_code
def yX10_valueOf : MethodName := ⟨RX10, "valueOf", "(I)I"⟩
abbrev cX10_worthOf : ByteArray := prog_12_method_26_code
def yX10_worthOf : MethodName := ⟨RX10, "worthOf", "(I)I"⟩
abbrev cX10_sumOf : ByteArray := prog_12_method_27_code
def yX10_sumOf : MethodName := ⟨RX10, "sumOf", "()I"⟩
abbrev cX10_lettersBy : ByteArray := prog_12_method_28_code
def yX10_lettersBy : MethodName := ⟨RX10, "lettersBy", "(I)I"⟩
abbrev cX10_underWay : ByteArray := prog_12_method_29_code
def yX10_underWay : MethodName := ⟨RX10, "underWay", "()I"⟩
abbrev cX10_isReady : ByteArray := prog_12_method_30_code
def yX10_isReady : MethodName := ⟨RX10, "isReady", "(I)Z"⟩
abbrev cX10_canBe : ByteArray := prog_12_method_31_code
def yX10_canBe : MethodName := ⟨RX10, "canBe", "()Z"⟩
abbrev cX10_close : ByteArray := prog_12_method_32_code
def yX10_close : MethodName := ⟨RX10, "close", "()V"⟩
abbrev cX10_inCut : ByteArray := prog_12_method_33_code
def yX10_inCut : MethodName := ⟨RX10, "inCut", "()I"⟩
abbrev cX10_takeNow : ByteArray := prog_12_method_34_code
def yX10_takeNow : MethodName := ⟨RX10, "takeNow", "()V"⟩
abbrev cX10_ofVillage : ByteArray := prog_12_method_35_code
def yX10_ofVillage : MethodName := ⟨RX10, "ofVillage", "(II)I"⟩
abbrev cX10_thing : ByteArray := prog_12_method_36_code
def yX10_thing : MethodName := ⟨RX10, "thing", "(III)I"⟩
abbrev cX10_ahead : ByteArray := prog_12_method_37_code
def yX10_ahead : MethodName := ⟨RX10, "ahead", "(IIII)I"⟩
abbrev cX10_happen : ByteArray := prog_12_method_38_code
def yX10_happen : MethodName := ⟨RX10, "happen", "(I)I"⟩
abbrev cX10_anew : ByteArray := prog_12_method_39_code
def yX10_anew : MethodName := ⟨RX10, "anew", "()I"⟩
abbrev cX10_refusesCells : ByteArray := prog_12_method_40_code
def yX10_refusesCells : MethodName := ⟨RX10, "refusesCells", "(I)I"⟩
abbrev cX10_takeCells : ByteArray := prog_12_method_41_code
def yX10_takeCells : MethodName := ⟨RX10, "takeCells", "(I)V"⟩
abbrev cX10_cut : ByteArray := prog_12_method_42_code
def yX10_cut : MethodName := ⟨RX10, "cut", "(IIII)I"⟩
abbrev cX10_now : ByteArray := prog_12_method_43_code
def yX10_now : MethodName := ⟨RX10, "now", "(I)I"⟩
abbrev cX10_goTale : ByteArray := prog_12_method_44_code
def yX10_goTale : MethodName := ⟨RX10, "goTale", "(II)I"⟩
abbrev cX10_tale : ByteArray := prog_12_method_45_code
def yX10_tale : MethodName := ⟨RX10, "tale", "(IIIII)I"⟩
abbrev cX10_tellTale : ByteArray := prog_12_method_46_code
def yX10_tellTale : MethodName := ⟨RX10, "tellTale", "(I)I"⟩
abbrev cX10_isCut : ByteArray := prog_12_method_47_code
def yX10_isCut : MethodName := ⟨RX10, "isCut", "(I)Z"⟩
abbrev cX10_allThings : ByteArray := prog_12_method_48_code
def yX10_allThings : MethodName := ⟨RX10, "allThings", "()I"⟩
abbrev cX10_lastCode : ByteArray := prog_12_method_49_code
def yX10_lastCode : MethodName := ⟨RX10, "lastCode", "()I"⟩
abbrev cX10_cuts : ByteArray := prog_12_method_50_code
def yX10_cuts : MethodName := ⟨RX10, "cuts", "()I"⟩
abbrev cX10_findWays : ByteArray := prog_12_method_51_code
def yX10_findWays : MethodName := ⟨RX10, "findWays", "(I)V"⟩
abbrev cX10_runs : ByteArray := prog_12_method_52_code
def yX10_runs : MethodName := ⟨RX10, "runs", "()J"⟩
abbrev cX10_first : ByteArray := prog_12_method_53_code
def yX10_first : MethodName := ⟨RX10, "first", "(I)I"⟩
abbrev cX10_some : ByteArray := prog_12_method_54_code
def yX10_some : MethodName := ⟨RX10, "some", "(I)I"⟩
abbrev cX10_every : ByteArray := prog_12_method_55_code
def yX10_every : MethodName := ⟨RX10, "every", "(I)I"⟩
abbrev cX10_reading : ByteArray := prog_12_method_56_code
def yX10_reading : MethodName := ⟨RX10, "reading", "(IIII)I"⟩
abbrev cX10_back : ByteArray := prog_12_method_57_code
def yX10_back : MethodName := ⟨RX10, "back", "(I)I"⟩
abbrev cX10_areSo : ByteArray := prog_12_method_58_code
def yX10_areSo : MethodName := ⟨RX10, "areSo", "()Z"⟩
abbrev cX10_kinds : ByteArray := prog_12_method_59_code
def yX10_kinds : MethodName := ⟨RX10, "kinds", "(I)I"⟩
abbrev cX10_inLeastTerms : ByteArray := prog_12_method_60_code
def yX10_inLeastTerms : MethodName := ⟨RX10, "inLeastTerms", "(JJI)J"⟩
abbrev cX10_odds : ByteArray := prog_12_method_61_code
def yX10_odds : MethodName := ⟨RX10, "odds", "(II)J"⟩
abbrev cX10_sheet : ByteArray := prog_12_method_62_code
def yX10_sheet : MethodName := ⟨RX10, "sheet", "(III)I"⟩
abbrev cX10_lose : ByteArray := prog_12_method_63_code
def yX10_lose : MethodName := ⟨RX10, "lose", "(I)I"⟩
abbrev cX10_put : ByteArray := prog_12_method_64_code
def yX10_put : MethodName := ⟨RX10, "put", "(III)I"⟩
abbrev cX10_cell : ByteArray := prog_12_method_65_code
def yX10_cell : MethodName := ⟨RX10, "cell", "(III)J"⟩
abbrev cX10_copy : ByteArray := prog_12_method_66_code
def yX10_copy : MethodName := ⟨RX10, "copy", "(IIIII)I"⟩
abbrev cX10_begins : ByteArray := prog_12_method_67_code
def yX10_begins : MethodName := ⟨RX10, "begins", "(I)V"⟩
abbrev cX10_tell : ByteArray := prog_12_method_68_code
def yX10_tell : MethodName := ⟨RX10, "tell", "(I)I"⟩
abbrev cX10_ring : ByteArray := prog_12_method_69_code
def yX10_ring : MethodName := ⟨RX10, "ring", "(I)I"⟩
abbrev cX10_as : ByteArray := prog_12_method_70_code
def yX10_as : MethodName := ⟨RX10, "as", "(II)I"⟩
abbrev cX10_trace : ByteArray := prog_12_method_71_code
def yX10_trace : MethodName := ⟨RX10, "trace", "()I"⟩
abbrev cX10_fault : ByteArray := prog_12_method_72_code
def yX10_fault : MethodName := ⟨RX10, "fault", "()I"⟩
abbrev cX10_many : ByteArray := prog_12_method_73_code
def yX10_many : MethodName := ⟨RX10, "many", "(I)I"⟩
def RJ9 : String := "java/lang/Math"
abbrev cJ9_max_7cf53 : ByteArray := prog_13_method_65_code
def yJ9_max_7cf53 : MethodName := ⟨RJ9, "max", "(II)I"⟩
def RJ10 : String := "java/lang/System"
def RJ7 : String := "java/util/Arrays"
abbrev cJ7_fill_53178 : ByteArray := prog_15_method_103_code
def yJ7_fill_53178 : MethodName := ⟨RJ7, "fill", "([II)V"⟩
def RL : String := "VillageCutsLaw"
abbrev cL_law : ByteArray := code
def yL_law : MethodName := ⟨RL, "law", "([I)Z"⟩
abbrev vwCl : List vw_C := [(RX0, TX0, 5), (RX1, TX1, 5), (RX2, TX2, 6), (RX3, TX3, 6), (RX4, TX4, 5), (RX5, TX5, 4), (RX6, TX6, 8), (RX7, TX7, 4), (RX8, TX8, 1), (RX9, TX9, 10), (RX10, TX10, 27)]
end
section
/-! ===== the words that every method has ===== -/
def UW : List Cond := lw_tbl.filter goodWord
theorem UW_good {big : List Cond} (h : ∀ w ∈ UW, w ∈ big) : GoodIn big UW := fun w hw => ⟨h w hw, good_of_word (List.mem_filter.mp hw).2⟩
theorem UW_in {w : Cond} (i : Nat) (h : tables_1[i]? = some w) (hg : goodWord w = true) : w ∈ UW := List.mem_filter.mpr ⟨List.mem_append_right _ (List.mem_of_getElem? h), hg⟩
theorem UW_pr {y : MethodName} {n : Nat} (i : Nat) (h : lw_privs[i]? = some (y, n)) (hg : goodWord (Cond.selects y.cls y y) = true) : Cond.selects y.cls y y ∈ UW := List.mem_filter.mpr ⟨List.mem_append_left _ (List.mem_map.mpr ⟨(y, n), List.mem_of_getElem? h, rfl⟩), hg⟩
/-! ===== a heap as a function of addresses ===== -/
abbrev Hp : Type := Nat → Option va_E
abbrev Gm : Type := va_G × (Nat → ClassId)
abbrev LocS : Type := List (Option Value)
abbrev CT : Type := Hp → Nat → Nat → LocS → List Value → Prop
def hup (h : Hp) (a : Nat) (e : va_E) : Hp := fun b => if b = a then some e else h b
theorem hup_same {h : Hp} {a : Nat} {e : va_E} : hup h a e a = some e := if_pos rfl
theorem hup_ne {h : Hp} {a b : Nat} {e : va_E} (hb : b ≠ a) : hup h a e b = h b := if_neg hb
def arrTys (g : Gm) : List (ClassId × FieldType) := [(g.2 0, .int), (g.2 1, .long), (g.2 2, .boolean), (g.2 3, .object RX4), (g.2 4, .object RX3), (g.2 5, .object RX5), (g.2 6, .array .int)]
/-- what the tables say, beside the words: it stays in every state of the run -/
def KK (g : Gm) (U : State) : Prop := va_K g.1 vwCl (arrTys g) U ∧ (va_AO RX4 U ∧ va_AO RX3 U ∧ va_AO RX5 U ∧ va_AOA .int U) ∧
  (va_Nw (.methodLinkNest RX9 19 yX8_init RX9) U ∧ va_Nw (.methodLinkNest RX2 30 yX3_init RX9) U ∧ va_Nw (.methodLinkNest RX9 46 yX5_init RX9) U) ∧
  (va_Nw (.castable RX1 RX0) U ∧ va_Nw (.castable RX1 RX4) U ∧ va_Nw (.castable RX0 RX4) U ∧ va_Nw (.declares yX4_toldPlainly) U) ∧ (va_Nc RX4 RX1 U ∧ va_Nc RX4 RX0 U ∧ va_Nc RX0 RX1 U)
theorem KK.warm {g : Gm} {s U : State} (hW : s.WarmedH U.vm) (h : KK g s) : KK g U := by
  obtain ⟨h1, ⟨a1, a2, a3, a4⟩, ⟨b1, b2, b3⟩, ⟨c1, c2, c3, c4⟩, d1, d2, d3⟩ := h
  exact ⟨h1.moved hW.alike, ⟨a1.moved hW.alike, a2.moved hW.alike, a3.moved hW.alike, a4.moved hW.alike⟩, ⟨b1.warmM hW, b2.warmM hW, b3.warmM hW⟩, ⟨c1.warmC hW, c2.warmC hW, c3.warmC hW, c4.warmD hW⟩, d1.moved hW.alike, d2.moved hW.alike, d3.moved hW.alike⟩
theorem KK.same {g : Gm} {u U : State} (hv : u.vm = U.vm) (h : KK g u) : KK g U := by
  have ha : u.vm.Alike U.vm := hv ▸ Vm.Alike.refl u.vm
  obtain ⟨h1, ⟨a1, a2, a3, a4⟩, ⟨b1, b2, b3⟩, ⟨c1, c2, c3, c4⟩, d1, d2, d3⟩ := h
  exact ⟨h1.moved ha, ⟨a1.moved ha, a2.moved ha, a3.moved ha, a4.moved ha⟩, ⟨b1.same rfl hv, b2.same rfl hv, b3.same rfl hv⟩, ⟨c1.same rfl hv, c2.same rfl hv, c3.same rfl hv, c4.same rfl hv⟩, d1.moved ha, d2.moved ha, d3.moved ha⟩
/-- the machine's heap holds h: its cells are the rows of a list, apart, of a kind -/
def Hok (g : Gm) (A : Nat → Prop) (H : Heap) (h : Hp) : Prop := ∃ ws : va_W, va_P g.1 vwCl ws H ∧ va_D A ws ∧ ∀ (a : Nat) (e : va_E), h a = some e ↔ ∃ k : Nat, ws[k]? = some (a, e)
theorem Hok.put {g : Gm} {A : Nat → Prop} {H : Heap} {h : Hp} {ws : va_W} {q0 a : Nat} {e0 e : va_E} (hD0 : va_D A ws) (hr : ∀ (a : Nat) (e : va_E), h a = some e ↔ ∃ k : Nat, ws[k]? = some (a, e)) (h0 : ws[q0]? = some (a, e0))
    (hP : va_P g.1 vwCl (ws.set q0 (a, e)) H) (hD : va_D A (ws.set q0 (a, e))) : Hok g A H (hup h a e) := by
  refine ⟨_, hP, hD, fun b x => ?_⟩
  have hlt : q0 < ws.length := (List.getElem?_eq_some_iff.mp h0).1
  by_cases hb : b = a
  · subst hb
    rw [hup_same]
    constructor
    · intro hx
      cases hx
      exact ⟨q0, by simp [hlt]⟩
    · rintro ⟨k, hk⟩
      have h2 : (ws.set q0 (b, e))[q0]? = some (b, e) := by simp [hlt]
      have e1 := hD.1 k q0 _ _ hk h2 rfl
      subst e1
      rw [h2] at hk
      cases hk
      rfl
  · rw [hup_ne hb, hr]
    constructor
    · rintro ⟨k, hk⟩
      refine ⟨k, ?_⟩
      have hne : q0 ≠ k := fun q => by
        subst q
        rw [h0] at hk
        cases hk
        exact hb rfl
      rw [List.getElem?_set_ne hne]
      exact hk
    · rintro ⟨k, hk⟩
      refine ⟨k, ?_⟩
      have hne : q0 ≠ k := fun q => by
        subst q
        have h2 : (ws.set q0 (a, e))[q0]? = some (a, e) := by simp [hlt]
        rw [h2] at hk
        cases hk
        exact hb rfl
      rw [List.getElem?_set_ne hne] at hk
      exact hk
theorem Hok.push {g : Gm} {A : Nat → Prop} {H : Heap} {h : Hp} {ws : va_W} {q : Nat} {e : va_E} (hr : ∀ (a : Nat) (e : va_E), h a = some e ↔ ∃ k : Nat, ws[k]? = some (a, e))
    (hP : va_P g.1 vwCl (ws ++ [(q, e)]) H) (hD : va_D A (ws ++ [(q, e)])) : h q = none ∧ Hok g A H (hup h q e) := by
  have hlast : (ws ++ [(q, e)])[ws.length]? = some (q, e) := by simp
  have hleft : ∀ (k : Nat) (x : Nat × va_E), ws[k]? = some x → (ws ++ [(q, e)])[k]? = some x := fun k x hx => by
    rw [List.getElem?_append_left ((List.getElem?_eq_some_iff.mp hx).1)]
    exact hx
  have hn : h q = none := by
    cases hq : h q with
    | none => rfl
    | some x =>
      obtain ⟨k, hk⟩ := (hr q x).mp hq
      have h1 := hD.1 k ws.length _ _ (hleft k _ hk) hlast rfl
      have h2 := (List.getElem?_eq_some_iff.mp hk).1
      omega
  refine ⟨hn, _, hP, hD, fun b x => ?_⟩
  by_cases hb : b = q
  · subst hb
    rw [hup_same]
    constructor
    · intro hx
      cases hx
      exact ⟨_, hlast⟩
    · rintro ⟨k, hk⟩
      have e1 := hD.1 k ws.length _ _ hk hlast rfl
      subst e1
      rw [hlast] at hk
      cases hk
      rfl
  · rw [hup_ne hb, hr]
    constructor
    · rintro ⟨k, hk⟩
      exact ⟨k, hleft k _ hk⟩
    · rintro ⟨k, hk⟩
      refine ⟨k, ?_⟩
      by_cases hl : k < ws.length
      · rw [List.getElem?_append_left hl] at hk
        exact hk
      · rw [List.getElem?_append_right (by omega)] at hk
        have h0 : k - ws.length < 1 := (List.getElem?_eq_some_iff.mp hk).1
        rw [show k - ws.length = 0 by omega] at hk
        cases hk
        exact absurd rfl hb
def Adom (h : Hp) (sz : Nat) : Nat → Prop := fun q => h q ≠ none ∨ sz ≤ q
theorem Hok.weaken {g : Gm} {A B : Nat → Prop} {H : Heap} {h : Hp} (hk : Hok g A H h) (hAB : ∀ q, A q → B q) : Hok g B H h := by
  obtain ⟨ws, h1, h2, h3⟩ := hk
  exact ⟨ws, h1, h2.weaken (fun _ _ _ q => hAB _ q), h3⟩
theorem Hok.self {g : Gm} {A : Nat → Prop} {H : Heap} {h : Hp} (sz : Nat) (hk : Hok g A H h) : Hok g (Adom h sz) H h := by
  obtain ⟨ws, h1, h2, h3⟩ := hk
  exact ⟨ws, h1, ⟨h2.1, fun k q hq => Or.inl (fun hn => by
    have := (h3 q.1 q.2).mpr ⟨k, hq⟩
    rw [hn] at this
    cases this)⟩, h3⟩
theorem Hok.dom {g : Gm} {A : Nat → Prop} {H : Heap} {h : Hp} {q : Nat} (hk : Hok g A H h) (hq : h q ≠ none) : A q := by
  obtain ⟨ws, h1, h2, h3⟩ := hk
  cases hx : h q with
  | none => exact absurd hx hq
  | some x =>
    obtain ⟨k, hk⟩ := (h3 q x).mp hx
    exact h2.2 k _ hk
/-! ===== the locals ===== -/
def lh (arr : Array Slot) (nL : Nat) (ls : LocS) : Prop := ls.length = nL ∧ arr.size = nL ∧ lv_wf arr ∧ ∀ (i : Nat) (v : Value), ls[i]? = some (some v) → arr[i]? = some (.val v) ∧ v.category = 1
def lpr (ls : LocS) : List (Nat × Value) := (List.range ls.length).filterMap fun i => match ls[i]? with
  | some (some v) => some (i, v)
  | _ => none
theorem lpr_mem {ls : LocS} {q : Nat × Value} : q ∈ lpr ls ↔ ls[q.1]? = some (some q.2) := by
  unfold lpr
  rw [List.mem_filterMap]
  constructor
  · rintro ⟨i, -, hi⟩
    split at hi
    next v hv => cases hi; exact hv
    next => cases hi
  · intro h
    refine ⟨q.1, List.mem_range.mpr ((List.getElem?_eq_some_iff.mp h).1), ?_⟩
    rw [h]
theorem lh.has {arr : Array Slot} {nL : Nat} {ls : LocS} (h : lh arr nL ls) : lv_has arr nL (lpr ls) := ⟨h.2.1, h.2.2.1, fun q hq => (h.2.2.2 q.1 q.2 (lpr_mem.mp hq)).1⟩
theorem lh.set {arr arr' : Array Slot} {nL : Nat} {ls : LocS} {i : Nat} {v : Value} (h : lh arr nL ls) (hi : i < nL) (hc : v.category = 1) (h' : lv_has arr' nL ((i, v) :: (lpr ls).filter (fun q => !(q.1 == i) && !(q.1 + 1 == i && q.2.category == 2)))) : lh arr' nL (ls.set i (some v)) := by
  refine ⟨by rw [List.length_set]; exact h.1, h'.1, h'.2.1, fun j w hj => ?_⟩
  by_cases hji : j = i
  · subst hji
    have hl : j < ls.length := by rw [h.1]; exact hi
    rw [List.getElem?_set_self hl] at hj
    cases hj
    exact ⟨h'.2.2 _ List.mem_cons_self, hc⟩
  · rw [List.getElem?_set_ne (Ne.symm hji)] at hj
    refine ⟨h'.2.2 (j, w) (List.mem_cons_of_mem _ (List.mem_filter.mpr ⟨lpr_mem.mpr hj, ?_⟩)), (h.2.2.2 j w hj).2⟩
    have h1 := (h.2.2.2 j w hj).2
    simp [hji, h1]
/-! ===== methods ===== -/
abbrev MD : Type := MethodName × ByteArray × Nat × Option FieldType × Nat × Nat
def mdW (d : MD) : List Cond := .code d.1 d.2.1 d.2.2.1 d.2.2.2.1 :: UW
def mdR (d : MD) (mc ms : Nat) : Room := { frames := d.2.2.2.2.1, cells := mc, slots := ms, locals := d.2.2.2.2.2 }
def PcR (g : Gm) (av : List Value) (h : Hp) (sz : Nat) : Array Value → State → Prop := fun v U => v = av.toArray ∧ U.heap.size = sz ∧ KK g U ∧ Hok g (fun _ => True) U.heap h
def QcR (g : Gm) (h : Hp) (sz : Nat) (K : Option Value → Hp → Prop) : Array Value → State → Outcome → State → Prop := fun _ st oc t => (∃ (r : Option Value) (h' : Hp), oc = .returned r ∧ K r h' ∧ Hok g (Adom h sz) t.heap h') ∧ va_F (Adom h sz) st t
/-- the method d, called on av in a heap that holds h, comes back, at most mc cells of ms slots richer, with an answer and a heap of which K holds -/
def Run (l : Launch) (g : Gm) (d : MD) (av : List Value) (h : Hp) (mc ms : Nat) (K : Option Value → Hp → Prop) : Prop :=
  ∀ sz : Nat, Met l d.1 (mdW d) (mdR d mc ms) (PcR g av h sz) (QcR g h sz K) mc ms (Adom h sz)
theorem PcR_blind {g : Gm} {av : List Value} {h : Hp} {sz : Nat} : FrameBlind (PcR g av h sz) := fun a U gg mk q => ⟨q.1, q.2.1, q.2.2.1.same rfl, q.2.2.2⟩
end
section
/-! ===== instructions as transformers of what must hold ===== -/
def oILd (i : Nat) (K : CT) : CT := fun h cb sb ls st => match ls[i]? with
  | some (some (.int x)) => K h cb sb ls (.int x :: st)
  | _ => False
def oALd (i : Nat) (K : CT) : CT := fun h cb sb ls st => match ls[i]? with
  | some (some (.ref x)) => K h cb sb ls (.ref x :: st)
  | _ => False
def oISt (i : Nat) (K : CT) : CT := fun h cb sb ls st => match st with
  | .int x :: r => K h cb sb (ls.set i (some (.int x))) r
  | _ => False
def oASt (i : Nat) (K : CT) : CT := fun h cb sb ls st => match st with
  | .ref x :: r => K h cb sb (ls.set i (some (.ref x))) r
  | _ => False
def oInc (i : Nat) (d : Int32) (K : CT) : CT := fun h cb sb ls st => match ls[i]? with
  | some (some (.int x)) => K h cb sb (ls.set i (some (.int (x + d)))) st
  | _ => False
def oPush (v : Value) (K : CT) : CT := fun h cb sb ls st => K h cb sb ls (v :: st)
def oBin (f : Int32 → Int32 → Int32) (K : CT) : CT := fun h cb sb ls st => match st with
  | .int y :: .int x :: r => K h cb sb ls (.int (f x y) :: r)
  | _ => False
def oBinZ (f : Int32 → Int32 → Int32) (K : CT) : CT := fun h cb sb ls st => match st with
  | .int y :: .int x :: r => ¬ y = 0 ∧ K h cb sb ls (.int (f x y) :: r)
  | _ => False
def oUn (f : Int32 → Int32) (K : CT) : CT := fun h cb sb ls st => match st with
  | .int x :: r => K h cb sb ls (.int (f x) :: r)
  | _ => False
def oI2L (K : CT) : CT := fun h cb sb ls st => match st with
  | .int x :: r => K h cb sb ls (.long x.toInt64 :: r)
  | _ => False
def oLAdd (K : CT) : CT := fun h cb sb ls st => match st with
  | .long y :: .long x :: r => K h cb sb ls (.long (x + y) :: r)
  | _ => False
def oLCmp (K : CT) : CT := fun h cb sb ls st => match st with
  | .long y :: .long x :: r => K h cb sb ls (.int (lg_cmp x y) :: r)
  | _ => False
def oDup (K : CT) : CT := fun h cb sb ls st => match st with
  | .int x :: r => K h cb sb ls (.int x :: .int x :: r)
  | .ref x :: r => K h cb sb ls (.ref x :: .ref x :: r)
  | _ => False
def oDup2 (K : CT) : CT := fun h cb sb ls st => match st with
  | .int x :: .ref y :: r => K h cb sb ls (.int x :: .ref y :: .int x :: .ref y :: r)
  | _ => False
def oGo (K : CT) : CT := fun h cb sb ls st => K h cb sb ls st
def oCmp (f : Int32 → Int32 → Prop) (T N : CT) : CT := fun h cb sb ls st => match st with
  | .int y :: .int x :: r => (f x y → T h cb sb ls r) ∧ (¬ f x y → N h cb sb ls r)
  | _ => False
def oIf (f : Int32 → Prop) (T N : CT) : CT := fun h cb sb ls st => match st with
  | .int x :: r => (f x → T h cb sb ls r) ∧ (¬ f x → N h cb sb ls r)
  | _ => False
def oNonNull (T N : CT) : CT := fun h cb sb ls st => match st with
  | .ref _ :: r => T h cb sb ls r
  | .null :: r => N h cb sb ls r
  | _ => False
def oSwL (x : Int32) : List (Int32 × CT) → CT → CT
  | [], D => D
  | (k, T) :: ts, D => fun h cb sb ls st => (x = k → T h cb sb ls st) ∧ (¬ x = k → oSwL x ts D h cb sb ls st)
def oSw (ts : List (Int32 × CT)) (D : CT) : CT := fun h cb sb ls st => match st with
  | .int x :: r => oSwL x ts D h cb sb ls r
  | _ => False
def oGet (cs : List Nat) (i : Nat) (K : CT) : CT := fun h cb sb ls st => match st with
  | .ref a :: r => ∃ (ci : Nat) (fs : List Value) (v : Value), h a = some (.inr (ci, fs)) ∧ ci ∈ cs ∧ fs[i]? = some v ∧ K h cb sb ls (v :: r)
  | _ => False
def oPutI (cs : List Nat) (i : Nat) (K : CT) : CT := fun h cb sb ls st => match st with
  | .int x :: .ref a :: r => ∃ (ci : Nat) (fs : List Value), h a = some (.inr (ci, fs)) ∧ ci ∈ cs ∧ i < fs.length ∧ K (hup h a (.inr (ci, fs.set i (.int x)))) cb sb ls r
  | _ => False
def oPutZ (cs : List Nat) (i : Nat) (K : CT) : CT := fun h cb sb ls st => match st with
  | .int x :: .ref a :: r => (x = 0 ∨ x = 1) ∧ ∃ (ci : Nat) (fs : List Value), h a = some (.inr (ci, fs)) ∧ ci ∈ cs ∧ i < fs.length ∧ K (hup h a (.inr (ci, fs.set i (.int x)))) cb sb ls r
  | _ => False
def oPutR (cs : List Nat) (i : Nat) (K : CT) : CT := fun h cb sb ls st => match st with
  | .ref x :: .ref a :: r => ∃ (ci : Nat) (fs : List Value), h a = some (.inr (ci, fs)) ∧ ci ∈ cs ∧ i < fs.length ∧ K (hup h a (.inr (ci, fs.set i (.ref x)))) cb sb ls r
  | .null :: .ref a :: r => ∃ (ci : Nat) (fs : List Value), h a = some (.inr (ci, fs)) ∧ ci ∈ cs ∧ i < fs.length ∧ K (hup h a (.inr (ci, fs.set i .null))) cb sb ls r
  | _ => False
abbrev aI (g : Gm) (n : Nat) (f : Nat → Int32) : va_E := .inl (g.2 0, n, .inl f)
abbrev aJ (g : Gm) (n : Nat) (f : Nat → Int64) : va_E := .inl (g.2 1, n, .inr (.inl f))
abbrev aZ (g : Gm) (n : Nat) (f : Nat → Int32) : va_E := .inl (g.2 2, n, .inl f)
abbrev aR (g : Gm) (t : Nat) (n : Nat) (f : Nat → Option Nat) : va_E := .inl (g.2 t, n, .inr (.inr (.inr (.inr f))))
def oLen (g : Gm) (K : CT) : CT := fun h cb sb ls st => match st with
  | .ref a :: r => ∃ (n : Nat) (f : Nat → Int32), h a = some (aI g n f) ∧ K h cb sb ls (.int (nI n) :: r)
  | _ => False
def oIAL (g : Gm) (K : CT) : CT := fun h cb sb ls st => match st with
  | .int i :: .ref a :: r => ∃ (n : Nat) (f : Nat → Int32), h a = some (aI g n f) ∧ vp_in i n ∧ K h cb sb ls (.int (f i.toNatClampNeg) :: r)
  | _ => False
def oIAS (g : Gm) (K : CT) : CT := fun h cb sb ls st => match st with
  | .int x :: .int i :: .ref a :: r => ∃ (n : Nat) (f : Nat → Int32), h a = some (aI g n f) ∧ vp_in i n ∧ K (hup h a (aI g n (upd f i.toNatClampNeg x))) cb sb ls r
  | _ => False
def oJAL (g : Gm) (K : CT) : CT := fun h cb sb ls st => match st with
  | .int i :: .ref a :: r => ∃ (n : Nat) (f : Nat → Int64), h a = some (aJ g n f) ∧ vp_in i n ∧ K h cb sb ls (.long (f i.toNatClampNeg) :: r)
  | _ => False
def oJAS (g : Gm) (K : CT) : CT := fun h cb sb ls st => match st with
  | .long x :: .int i :: .ref a :: r => ∃ (n : Nat) (f : Nat → Int64), h a = some (aJ g n f) ∧ vp_in i n ∧ K (hup h a (aJ g n (vp_updL f i.toNatClampNeg x))) cb sb ls r
  | _ => False
def oZAL (g : Gm) (K : CT) : CT := fun h cb sb ls st => match st with
  | .int i :: .ref a :: r => ∃ (n : Nat) (f : Nat → Int32), h a = some (aZ g n f) ∧ vp_in i n ∧ K h cb sb ls (.int (f i.toNatClampNeg) :: r)
  | _ => False
def oZAS (g : Gm) (K : CT) : CT := fun h cb sb ls st => match st with
  | .int x :: .int i :: .ref a :: r => (x = 0 ∨ x = 1) ∧ ∃ (n : Nat) (f : Nat → Int32), h a = some (aZ g n f) ∧ vp_in i n ∧ K (hup h a (aZ g n (upd f i.toNatClampNeg x))) cb sb ls r
  | _ => False
def oRAL (g : Gm) (t : Nat) (K : CT) : CT := fun h cb sb ls st => match st with
  | .int i :: .ref a :: r => ∃ (n : Nat) (f : Nat → Option Nat) (y : Nat), h a = some (aR g t n f) ∧ vp_in i n ∧ f i.toNatClampNeg = some y ∧ K h cb sb ls (.ref y :: r)
  | _ => False
def oRAS (g : Gm) (t : Nat) (cs : List Nat) (K : CT) : CT := fun h cb sb ls st => match st with
  | .ref v :: .int i :: .ref a :: r => ∃ (n : Nat) (f : Nat → Option Nat) (ci : Nat) (fs : List Value), h a = some (aR g t n f) ∧ h v = some (.inr (ci, fs)) ∧ ci ∈ cs ∧ vp_in i n ∧ K (hup h a (aR g t n (va_up f i.toNatClampNeg (some v)))) cb sb ls r
  | _ => False
def oNew (ci N : Nat) (ds : List Value) (K : CT) : CT := fun h cb sb ls st => 1 ≤ cb ∧ N ≤ sb ∧ ∀ q : Nat, h q = none → K (hup h q (.inr (ci, ds))) (cb - 1) (sb - N) ls (.ref q :: st)
def oNewI (g : Gm) (K : CT) : CT := fun h cb sb ls st => match st with
  | .int n :: r => ∃ N : Nat, n = nI N ∧ N ≤ 2000 ∧ 1 ≤ cb ∧ N ≤ sb ∧ ∀ q : Nat, h q = none → K (hup h q (aI g N (fun _ => 0))) (cb - 1) (sb - N) ls (.ref q :: r)
  | _ => False
def oNewJ (g : Gm) (K : CT) : CT := fun h cb sb ls st => match st with
  | .int n :: r => ∃ N : Nat, n = nI N ∧ N ≤ 2000 ∧ 1 ≤ cb ∧ N ≤ sb ∧ ∀ q : Nat, h q = none → K (hup h q (aJ g N (fun _ => 0))) (cb - 1) (sb - N) ls (.ref q :: r)
  | _ => False
def oNewZ (g : Gm) (K : CT) : CT := fun h cb sb ls st => match st with
  | .int n :: r => ∃ N : Nat, n = nI N ∧ N ≤ 2000 ∧ 1 ≤ cb ∧ N ≤ sb ∧ ∀ q : Nat, h q = none → K (hup h q (aZ g N (fun _ => 0))) (cb - 1) (sb - N) ls (.ref q :: r)
  | _ => False
def oNewR (g : Gm) (t : Nat) (K : CT) : CT := fun h cb sb ls st => match st with
  | .int n :: r => ∃ N : Nat, n = nI N ∧ N ≤ 2000 ∧ 1 ≤ cb ∧ N ≤ sb ∧ ∀ q : Nat, h q = none → K (hup h q (aR g t N (fun _ => none))) (cb - 1) (sb - N) ls (.ref q :: r)
  | _ => False
/-- new int[N][M]: the outer array at q, the rows at r 0, r 1 .. -/
def hrows (h : Hp) (N : Nat) (r : Nat → Nat) (e : va_E) : Hp := fun b => if b ∈ (List.range N).map r then some e else h b
def oNewII (g : Gm) (N M : Nat) (K : CT) : CT := fun h cb sb ls st => match st with
  | .int m :: .int n :: rs => n = nI N ∧ m = nI M ∧ N ≤ 100 ∧ M ≤ 100 ∧ 1 + N ≤ cb ∧ N + N * M ≤ sb ∧ ∀ (q : Nat) (r : Nat → Nat), h q = none → (∀ i, i < N → h (r i) = none) → (∀ i, i < N → r i ≠ q) → (∀ i j, i < N → j < N → r i = r j → i = j) →
      K (hrows (hup h q (aR g 6 N (fun i => if i < N then some (r i) else none))) N r (aI g M (fun _ => 0))) (cb - (1 + N)) (sb - (N + N * M)) ls (.ref q :: rs)
  | _ => False
def oInst (tab : List (Nat × Int32)) (K : CT) : CT := fun h cb sb ls st => match st with
  | .ref a :: r => ∃ (ci : Nat) (fs : List Value) (b : Int32), h a = some (.inr (ci, fs)) ∧ (ci, b) ∈ tab ∧ K h cb sb ls (.int b :: r)
  | _ => False
def oObj (K : CT) : CT := fun h cb sb ls st => match st with
  | .ref _ :: r => K h cb sb ls r
  | _ => False
def oMax (K : CT) : CT := fun h cb sb ls st => match st with
  | .int y :: .int x :: r => Nat.ble r.length 4 = true ∧ K h cb sb ls (.int (if x < y then y else x) :: r)
  | _ => False
def oCopy (g : Gm) (K : CT) : CT := fun h cb sb ls st => match st with
  | [.int n, .int dp, .ref b, .int sp, .ref a] => ∃ (n0 n1 : Nat) (f f1 : Nat → Int32), h a = some (aI g n0 f) ∧ h b = some (aI g n1 f1) ∧ ¬ sp < 0 ∧ ¬ dp < 0 ∧ ¬ n < 0 ∧ sp.toNatClampNeg + n.toNatClampNeg ≤ n0 ∧ dp.toNatClampNeg + n.toNatClampNeg ≤ n1 ∧ K (hup h b (aI g n1 (va_cpy f f1 sp.toNatClampNeg dp.toNatClampNeg n.toNatClampNeg))) cb sb ls []
  | _ => False
def chkS (n : Nat) (st : List Value) : Bool := Nat.ble n st.length && Nat.ble st.length (n + 4)
/-- a call that is bound to its method: static, constructor -/
def oCall (l : Launch) (g : Gm) (d : MD) (n : Nat) (K : CT) : CT := fun h cb sb ls st => chkS n st = true ∧ ∃ mc ms : Nat, mc ≤ cb ∧ ms ≤ sb ∧ Run l g d (st.take n).reverse h mc ms (fun r h' => K h' (cb - mc) (sb - ms) ls (r.toList ++ st.drop n))
/-- a call on an object: by its class, which method -/
def oCallV (l : Launch) (g : Gm) (tab : List (Nat × MD)) (n : Nat) (K : CT) : CT := fun h cb sb ls st => chkS n st = true ∧ ∃ (b ci : Nat) (fs : List Value) (d : MD), (st.take n).getLast? = some (.ref b) ∧ h b = some (.inr (ci, fs)) ∧ (ci, d) ∈ tab ∧
  ∃ mc ms : Nat, mc ≤ cb ∧ ms ≤ sb ∧ Run l g d (st.take n).reverse h mc ms (fun r h' => K h' (cb - mc) (sb - ms) ls (r.toList ++ st.drop n))
abbrev PT : Type := Option Value → Hp → Prop
def oIRet (P : PT) : CT := fun h _ _ _ st => match st with
  | [.int r] => P (some (.int r)) h
  | _ => False
def oZRet (P : PT) : CT := fun h _ _ _ st => match st with
  | [.int r] => (r = 0 ∨ r = 1) ∧ P (some (.int r)) h
  | _ => False
def oJRet (P : PT) : CT := fun h _ _ _ st => match st with
  | [.long r] => P (some (.long r)) h
  | _ => False
def oARet (P : PT) : CT := fun h _ _ _ st => match st with
  | [.ref r] => P (some (.ref r)) h
  | _ => False
def oVRet (P : PT) : CT := fun h _ _ _ st => match st with
  | [] => P none h
  | _ => False
end
section
section SND
variable {p : Program} {l : Launch} {e : Env} {R : Room} {s : State} {m : MethodId} {args : Array Value} {below : List Frame} {meth : Method} {c : Code} {Q : State → Prop}
variable {g : Gm} {A : Nat → Prop} {cc : ByteArray} {own : String} {nL pc : Nat} {K T N : CT}
/-- the method that is walked: its machine, its code, its words, its tables -/
def Cx (g : Gm) (p : Program) (s : State) (m : MethodId) (args : Array Value) (meth : Method) (c : Code) (A : Nat → Prop) (cc : ByteArray) (own : String) (nL : Nat) : Prop :=
  p.tables.exec = Jvm.exec ∧ c.code = cc ∧ c.maxLocals = nL ∧ s.vm.findClass own = some m.cls ∧ (∀ w ∈ UW, w.before args s = true) ∧ KK g s ∧ meth.locks = false ∧ ∀ q, s.heap.size ≤ q → A q
def GM (g : Gm) (p : Program) (l : Launch) (e : Env) (R : Room) (s : State) (m : MethodId) (args : Array Value) (below : List Frame) (meth : Method) (c : Code) (A : Nat → Prop) (nL : Nat) (Q : State → Prop) (pc : Nat) : CT := fun h cb sb ls st =>
  ∀ (H : Heap) (locs : List Loc) (cells slots : Nat) (arr : Array Slot), Hok g A H h → va_S A s.heap H locs → cells + cb ≤ R.cells → slots + sb ≤ R.slots → lh arr nL ls → W p l e R s m args below meth c H locs cells slots Q (F0 m pc arr st)
def Sd (g : Gm) (p : Program) (l : Launch) (e : Env) (R : Room) (s : State) (m : MethodId) (args : Array Value) (below : List Frame) (meth : Method) (c : Code) (A : Nat → Prop) (nL : Nat) (Q : State → Prop) (K : CT) (pc : Nat) : Prop :=
  ∀ (h : Hp) (cb sb : Nat) (ls : LocS) (st : List Value), K h cb sb ls st → GM g p l e R s m args below meth c A nL Q pc h cb sb ls st
theorem Sd.rf : Sd g p l e R s m args below meth c A nL Q (GM g p l e R s m args below meth c A nL Q pc) pc := fun _ _ _ _ _ H => H
theorem s_iload_n (X : Cx g p s m args meth c A cc own nL) {k : Fin 4} {i : Nat} (d : decode cc pc = .ok (.iload_n k, 1)) (hi : (k : Nat) = i) (nx : Sd g p l e R s m args below meth c A nL Q K (pc + 1)) : Sd g p l e R s m args below meth c A nL Q (oILd i K) pc := by
  intro h cb sb ls st H HH locs cells slots arr hok hS hc hs hl
  obtain ⟨hx, hb, hml, hown, hts, hK, hlk, hA⟩ := X
  unfold oILd at H
  split at H
  next x hx0 => exact lv_iload_n hx hb d hi (hl.2.2.2 _ _ hx0).1 (nx _ _ _ _ _ H HH locs cells slots arr hok hS hc hs hl)
  next => exact H.elim
theorem s_iload (X : Cx g p s m args meth c A cc own nL) {i : Nat} (d : decode cc pc = .ok (.iload i, 2)) (nx : Sd g p l e R s m args below meth c A nL Q K (pc + 2)) : Sd g p l e R s m args below meth c A nL Q (oILd i K) pc := by
  intro h cb sb ls st H HH locs cells slots arr hok hS hc hs hl
  obtain ⟨hx, hb, hml, hown, hts, hK, hlk, hA⟩ := X
  unfold oILd at H
  split at H
  next x hx0 => exact lv_iload hx hb d (hl.2.2.2 _ _ hx0).1 (nx _ _ _ _ _ H HH locs cells slots arr hok hS hc hs hl)
  next => exact H.elim
theorem s_aload_n (X : Cx g p s m args meth c A cc own nL) {k : Fin 4} {i : Nat} (d : decode cc pc = .ok (.aload_n k, 1)) (hi : (k : Nat) = i) (nx : Sd g p l e R s m args below meth c A nL Q K (pc + 1)) : Sd g p l e R s m args below meth c A nL Q (oALd i K) pc := by
  intro h cb sb ls st H HH locs cells slots arr hok hS hc hs hl
  obtain ⟨hx, hb, hml, hown, hts, hK, hlk, hA⟩ := X
  unfold oALd at H
  split at H
  next x hx0 => exact lv_aload_n hx hb d hi (hl.2.2.2 _ _ hx0).1 (nx _ _ _ _ _ H HH locs cells slots arr hok hS hc hs hl)
  next => exact H.elim
theorem s_aload (X : Cx g p s m args meth c A cc own nL) {i : Nat} (d : decode cc pc = .ok (.aload i, 2)) (nx : Sd g p l e R s m args below meth c A nL Q K (pc + 2)) : Sd g p l e R s m args below meth c A nL Q (oALd i K) pc := by
  intro h cb sb ls st H HH locs cells slots arr hok hS hc hs hl
  obtain ⟨hx, hb, hml, hown, hts, hK, hlk, hA⟩ := X
  unfold oALd at H
  split at H
  next x hx0 => exact lv_aload hx hb d (hl.2.2.2 _ _ hx0).1 (nx _ _ _ _ _ H HH locs cells slots arr hok hS hc hs hl)
  next => exact H.elim
theorem s_istore_n (X : Cx g p s m args meth c A cc own nL) {k : Fin 4} {i : Nat} (d : decode cc pc = .ok (.istore_n k, 1)) (hi : (k : Nat) = i) (hn : i < nL) (nx : Sd g p l e R s m args below meth c A nL Q K (pc + 1)) : Sd g p l e R s m args below meth c A nL Q (oISt i K) pc := by
  intro h cb sb ls st H HH locs cells slots arr hok hS hc hs hl
  obtain ⟨hx, hb, hml, hown, hts, hK, hlk, hA⟩ := X
  unfold oISt at H
  split at H
  next x r => exact lv_istore_n hx hb d hi hl.has hn rfl (fun arr2 hl2 => nx _ _ _ _ _ H HH locs cells slots arr2 hok hS hc hs (hl.set hn rfl hl2))
  next => exact H.elim
theorem s_istore (X : Cx g p s m args meth c A cc own nL) {i : Nat} (d : decode cc pc = .ok (.istore i, 2)) (hn : i < nL) (nx : Sd g p l e R s m args below meth c A nL Q K (pc + 2)) : Sd g p l e R s m args below meth c A nL Q (oISt i K) pc := by
  intro h cb sb ls st H HH locs cells slots arr hok hS hc hs hl
  obtain ⟨hx, hb, hml, hown, hts, hK, hlk, hA⟩ := X
  unfold oISt at H
  split at H
  next x r => exact lv_istore hx hb d hl.has hn rfl (fun arr2 hl2 => nx _ _ _ _ _ H HH locs cells slots arr2 hok hS hc hs (hl.set hn rfl hl2))
  next => exact H.elim
theorem s_astore_n (X : Cx g p s m args meth c A cc own nL) {k : Fin 4} {i : Nat} (d : decode cc pc = .ok (.astore_n k, 1)) (hi : (k : Nat) = i) (hn : i < nL) (nx : Sd g p l e R s m args below meth c A nL Q K (pc + 1)) : Sd g p l e R s m args below meth c A nL Q (oASt i K) pc := by
  intro h cb sb ls st H HH locs cells slots arr hok hS hc hs hl
  obtain ⟨hx, hb, hml, hown, hts, hK, hlk, hA⟩ := X
  unfold oASt at H
  split at H
  next x r => exact lv_astore_n hx hb d hi hl.has hn rfl (fun arr2 hl2 => nx _ _ _ _ _ H HH locs cells slots arr2 hok hS hc hs (hl.set hn rfl hl2))
  next => exact H.elim
theorem s_astore (X : Cx g p s m args meth c A cc own nL) {i : Nat} (d : decode cc pc = .ok (.astore i, 2)) (hn : i < nL) (nx : Sd g p l e R s m args below meth c A nL Q K (pc + 2)) : Sd g p l e R s m args below meth c A nL Q (oASt i K) pc := by
  intro h cb sb ls st H HH locs cells slots arr hok hS hc hs hl
  obtain ⟨hx, hb, hml, hown, hts, hK, hlk, hA⟩ := X
  unfold oASt at H
  split at H
  next x r => exact lv_astore hx hb d hl.has hn rfl (fun arr2 hl2 => nx _ _ _ _ _ H HH locs cells slots arr2 hok hS hc hs (hl.set hn rfl hl2))
  next => exact H.elim
theorem s_iinc (X : Cx g p s m args meth c A cc own nL) {i : Nat} {n : Int} {v : Int32} (d : decode cc pc = .ok (.iinc i n, 3)) (hv : Int32.ofInt n = v) (hn : i < nL) (nx : Sd g p l e R s m args below meth c A nL Q K (pc + 3)) : Sd g p l e R s m args below meth c A nL Q (oInc i v K) pc := by
  intro h cb sb ls st H HH locs cells slots arr hok hS hc hs hl
  obtain ⟨hx, hb, hml, hown, hts, hK, hlk, hA⟩ := X
  subst hv
  unfold oInc at H
  split at H
  next x hx0 =>
    obtain ⟨k, hk⟩ := List.getElem?_of_mem (lpr_mem.mpr hx0 : (i, Value.int x) ∈ lpr ls)
    exact lv_iinc hx hb d hl.has hk rfl hn rfl (fun arr2 hl2 => nx _ _ _ _ _ H HH locs cells slots arr2 hok hS hc hs (hl.set hn rfl hl2))
  next => exact H.elim
theorem s_iconst (X : Cx g p s m args meth c A cc own nL) {n : Int} {v : Int32} (d : decode cc pc = .ok (.iconst n, 1)) (hv : Int32.ofInt n = v) (nx : Sd g p l e R s m args below meth c A nL Q K (pc + 1)) : Sd g p l e R s m args below meth c A nL Q (oPush (.int v) K) pc := by
  intro h cb sb ls st H HH locs cells slots arr hok hS hc hs hl
  obtain ⟨hx, hb, hml, hown, hts, hK, hlk, hA⟩ := X
  exact lv_iconst hx hb d hv (nx _ _ _ _ _ H HH locs cells slots arr hok hS hc hs hl)
theorem s_bipush (X : Cx g p s m args meth c A cc own nL) {n : Int} {v : Int32} (d : decode cc pc = .ok (.bipush n, 2)) (hv : (Int8.ofInt n).toInt32 = v) (nx : Sd g p l e R s m args below meth c A nL Q K (pc + 2)) : Sd g p l e R s m args below meth c A nL Q (oPush (.int v) K) pc := by
  intro h cb sb ls st H HH locs cells slots arr hok hS hc hs hl
  obtain ⟨hx, hb, hml, hown, hts, hK, hlk, hA⟩ := X
  exact lv_bipush hx hb d hv (nx _ _ _ _ _ H HH locs cells slots arr hok hS hc hs hl)
theorem s_sipush (X : Cx g p s m args meth c A cc own nL) {n : Int} {v : Int32} (d : decode cc pc = .ok (.sipush n, 3)) (hv : (Int16.ofInt n).toInt32 = v) (nx : Sd g p l e R s m args below meth c A nL Q K (pc + 3)) : Sd g p l e R s m args below meth c A nL Q (oPush (.int v) K) pc := by
  intro h cb sb ls st H HH locs cells slots arr hok hS hc hs hl
  obtain ⟨hx, hb, hml, hown, hts, hK, hlk, hA⟩ := X
  exact lv_sipush hx hb d hv (nx _ _ _ _ _ H HH locs cells slots arr hok hS hc hs hl)
theorem s_lconst (X : Cx g p s m args meth c A cc own nL) {n : Fin 2} {v : Int64} (d : decode cc pc = .ok (.lconst n, 1)) (hv : Int64.ofNat (n : Nat) = v) (nx : Sd g p l e R s m args below meth c A nL Q K (pc + 1)) : Sd g p l e R s m args below meth c A nL Q (oPush (.long v) K) pc := by
  intro h cb sb ls st H HH locs cells slots arr hok hS hc hs hl
  obtain ⟨hx, hb, hml, hown, hts, hK, hlk, hA⟩ := X
  exact lv_lconst hx hb d hv (nx _ _ _ _ _ H HH locs cells slots arr hok hS hc hs hl)
theorem s_null (X : Cx g p s m args meth c A cc own nL) (d : decode cc pc = .ok (.aconst_null, 1)) (nx : Sd g p l e R s m args below meth c A nL Q K (pc + 1)) : Sd g p l e R s m args below meth c A nL Q (oPush .null K) pc := by
  intro h cb sb ls st H HH locs cells slots arr hok hS hc hs hl
  obtain ⟨hx, hb, hml, hown, hts, hK, hlk, hA⟩ := X
  exact lv_null hx hb d (nx _ _ _ _ _ H HH locs cells slots arr hok hS hc hs hl)
theorem s_ldc2 (X : Cx g p s m args meth c A cc own nL) {index : Nat} {v : Int64} (d : decode cc pc = .ok (.ldc2_w index, 3)) (hw : Cond.constantLong own index v ∈ UW) (nx : Sd g p l e R s m args below meth c A nL Q K (pc + 3)) : Sd g p l e R s m args below meth c A nL Q (oPush (.long v) K) pc := by
  intro h cb sb ls st H HH locs cells slots arr hok hS hc hs hl
  obtain ⟨hx, hb, hml, hown, hts, hK, hlk, hA⟩ := X
  exact lv_ldc2 hx hb hown (hts _ hw) d (nx _ _ _ _ _ H HH locs cells slots arr hok hS hc hs hl)
theorem s_iadd (X : Cx g p s m args meth c A cc own nL) (d : decode cc pc = .ok (.iadd, 1)) (nx : Sd g p l e R s m args below meth c A nL Q K (pc + 1)) : Sd g p l e R s m args below meth c A nL Q (oBin (fun x y => x + y) K) pc := by
  intro h cb sb ls st H HH locs cells slots arr hok hS hc hs hl
  obtain ⟨hx, hb, hml, hown, hts, hK, hlk, hA⟩ := X
  unfold oBin at H
  split at H
  next y x r => exact lv_iadd hx hb d (nx _ _ _ _ _ H HH locs cells slots arr hok hS hc hs hl)
  next => exact H.elim
theorem s_isub (X : Cx g p s m args meth c A cc own nL) (d : decode cc pc = .ok (.isub, 1)) (nx : Sd g p l e R s m args below meth c A nL Q K (pc + 1)) : Sd g p l e R s m args below meth c A nL Q (oBin (fun x y => x - y) K) pc := by
  intro h cb sb ls st H HH locs cells slots arr hok hS hc hs hl
  obtain ⟨hx, hb, hml, hown, hts, hK, hlk, hA⟩ := X
  unfold oBin at H
  split at H
  next y x r => exact lv_isub hx hb d (nx _ _ _ _ _ H HH locs cells slots arr hok hS hc hs hl)
  next => exact H.elim
theorem s_imul (X : Cx g p s m args meth c A cc own nL) (d : decode cc pc = .ok (.imul, 1)) (nx : Sd g p l e R s m args below meth c A nL Q K (pc + 1)) : Sd g p l e R s m args below meth c A nL Q (oBin (fun x y => x * y) K) pc := by
  intro h cb sb ls st H HH locs cells slots arr hok hS hc hs hl
  obtain ⟨hx, hb, hml, hown, hts, hK, hlk, hA⟩ := X
  unfold oBin at H
  split at H
  next y x r => exact lv_imul hx hb d (nx _ _ _ _ _ H HH locs cells slots arr hok hS hc hs hl)
  next => exact H.elim
theorem s_iand (X : Cx g p s m args meth c A cc own nL) (d : decode cc pc = .ok (.iand, 1)) (nx : Sd g p l e R s m args below meth c A nL Q K (pc + 1)) : Sd g p l e R s m args below meth c A nL Q (oBin (fun x y => x &&& y) K) pc := by
  intro h cb sb ls st H HH locs cells slots arr hok hS hc hs hl
  obtain ⟨hx, hb, hml, hown, hts, hK, hlk, hA⟩ := X
  unfold oBin at H
  split at H
  next y x r => exact lv_iand hx hb d (nx _ _ _ _ _ H HH locs cells slots arr hok hS hc hs hl)
  next => exact H.elim
theorem s_ior (X : Cx g p s m args meth c A cc own nL) (d : decode cc pc = .ok (.ior, 1)) (nx : Sd g p l e R s m args below meth c A nL Q K (pc + 1)) : Sd g p l e R s m args below meth c A nL Q (oBin (fun x y => x ||| y) K) pc := by
  intro h cb sb ls st H HH locs cells slots arr hok hS hc hs hl
  obtain ⟨hx, hb, hml, hown, hts, hK, hlk, hA⟩ := X
  unfold oBin at H
  split at H
  next y x r => exact lv_ior hx hb d (nx _ _ _ _ _ H HH locs cells slots arr hok hS hc hs hl)
  next => exact H.elim
theorem s_ixor (X : Cx g p s m args meth c A cc own nL) (d : decode cc pc = .ok (.ixor, 1)) (nx : Sd g p l e R s m args below meth c A nL Q K (pc + 1)) : Sd g p l e R s m args below meth c A nL Q (oBin (fun x y => x ^^^ y) K) pc := by
  intro h cb sb ls st H HH locs cells slots arr hok hS hc hs hl
  obtain ⟨hx, hb, hml, hown, hts, hK, hlk, hA⟩ := X
  unfold oBin at H
  split at H
  next y x r => exact lv_ixor hx hb d (nx _ _ _ _ _ H HH locs cells slots arr hok hS hc hs hl)
  next => exact H.elim
theorem s_ishl (X : Cx g p s m args meth c A cc own nL) (d : decode cc pc = .ok (.ishl, 1)) (nx : Sd g p l e R s m args below meth c A nL Q K (pc + 1)) : Sd g p l e R s m args below meth c A nL Q (oBin (fun x y => x <<< (y &&& 31)) K) pc := by
  intro h cb sb ls st H HH locs cells slots arr hok hS hc hs hl
  obtain ⟨hx, hb, hml, hown, hts, hK, hlk, hA⟩ := X
  unfold oBin at H
  split at H
  next y x r => exact lv_ishl hx hb d (nx _ _ _ _ _ H HH locs cells slots arr hok hS hc hs hl)
  next => exact H.elim
theorem s_ishr (X : Cx g p s m args meth c A cc own nL) (d : decode cc pc = .ok (.ishr, 1)) (nx : Sd g p l e R s m args below meth c A nL Q K (pc + 1)) : Sd g p l e R s m args below meth c A nL Q (oBin (fun x y => x >>> (y &&& 31)) K) pc := by
  intro h cb sb ls st H HH locs cells slots arr hok hS hc hs hl
  obtain ⟨hx, hb, hml, hown, hts, hK, hlk, hA⟩ := X
  unfold oBin at H
  split at H
  next y x r => exact lv_ishr hx hb d (nx _ _ _ _ _ H HH locs cells slots arr hok hS hc hs hl)
  next => exact H.elim
theorem s_idiv (X : Cx g p s m args meth c A cc own nL) (d : decode cc pc = .ok (.idiv, 1)) (nx : Sd g p l e R s m args below meth c A nL Q K (pc + 1)) : Sd g p l e R s m args below meth c A nL Q (oBinZ (fun x y => x / y) K) pc := by
  intro h cb sb ls st H HH locs cells slots arr hok hS hc hs hl
  obtain ⟨hx, hb, hml, hown, hts, hK, hlk, hA⟩ := X
  unfold oBinZ at H
  split at H
  next y x r => exact lv_idiv hx hb d H.1 (nx _ _ _ _ _ H.2 HH locs cells slots arr hok hS hc hs hl)
  next => exact H.elim
theorem s_irem (X : Cx g p s m args meth c A cc own nL) (d : decode cc pc = .ok (.irem, 1)) (nx : Sd g p l e R s m args below meth c A nL Q K (pc + 1)) : Sd g p l e R s m args below meth c A nL Q (oBinZ (fun x y => x - x / y * y) K) pc := by
  intro h cb sb ls st H HH locs cells slots arr hok hS hc hs hl
  obtain ⟨hx, hb, hml, hown, hts, hK, hlk, hA⟩ := X
  unfold oBinZ at H
  split at H
  next y x r => exact lv_irem hx hb d H.1 (nx _ _ _ _ _ H.2 HH locs cells slots arr hok hS hc hs hl)
  next => exact H.elim
theorem s_i2b (X : Cx g p s m args meth c A cc own nL) (d : decode cc pc = .ok (.i2b, 1)) (nx : Sd g p l e R s m args below meth c A nL Q K (pc + 1)) : Sd g p l e R s m args below meth c A nL Q (oUn (fun x => x.toInt8.toInt32) K) pc := by
  intro h cb sb ls st H HH locs cells slots arr hok hS hc hs hl
  obtain ⟨hx, hb, hml, hown, hts, hK, hlk, hA⟩ := X
  unfold oUn at H
  split at H
  next x r => exact lv_i2b hx hb d rfl (nx _ _ _ _ _ H HH locs cells slots arr hok hS hc hs hl)
  next => exact H.elim
theorem s_i2s (X : Cx g p s m args meth c A cc own nL) (d : decode cc pc = .ok (.i2s, 1)) (nx : Sd g p l e R s m args below meth c A nL Q K (pc + 1)) : Sd g p l e R s m args below meth c A nL Q (oUn (fun x => x.toInt16.toInt32) K) pc := by
  intro h cb sb ls st H HH locs cells slots arr hok hS hc hs hl
  obtain ⟨hx, hb, hml, hown, hts, hK, hlk, hA⟩ := X
  unfold oUn at H
  split at H
  next x r => exact lv_i2s hx hb d rfl (nx _ _ _ _ _ H HH locs cells slots arr hok hS hc hs hl)
  next => exact H.elim
theorem s_i2l (X : Cx g p s m args meth c A cc own nL) (d : decode cc pc = .ok (.i2l, 1)) (nx : Sd g p l e R s m args below meth c A nL Q K (pc + 1)) : Sd g p l e R s m args below meth c A nL Q (oI2L K) pc := by
  intro h cb sb ls st H HH locs cells slots arr hok hS hc hs hl
  obtain ⟨hx, hb, hml, hown, hts, hK, hlk, hA⟩ := X
  unfold oI2L at H
  split at H
  next x r => exact lv_i2l hx hb d rfl (nx _ _ _ _ _ H HH locs cells slots arr hok hS hc hs hl)
  next => exact H.elim
theorem s_ladd (X : Cx g p s m args meth c A cc own nL) (d : decode cc pc = .ok (.ladd, 1)) (nx : Sd g p l e R s m args below meth c A nL Q K (pc + 1)) : Sd g p l e R s m args below meth c A nL Q (oLAdd K) pc := by
  intro h cb sb ls st H HH locs cells slots arr hok hS hc hs hl
  obtain ⟨hx, hb, hml, hown, hts, hK, hlk, hA⟩ := X
  unfold oLAdd at H
  split at H
  next y x r => exact lv_ladd hx hb d (nx _ _ _ _ _ H HH locs cells slots arr hok hS hc hs hl)
  next => exact H.elim
theorem s_lcmp (X : Cx g p s m args meth c A cc own nL) (d : decode cc pc = .ok (.lcmp, 1)) (nx : Sd g p l e R s m args below meth c A nL Q K (pc + 1)) : Sd g p l e R s m args below meth c A nL Q (oLCmp K) pc := by
  intro h cb sb ls st H HH locs cells slots arr hok hS hc hs hl
  obtain ⟨hx, hb, hml, hown, hts, hK, hlk, hA⟩ := X
  unfold oLCmp at H
  split at H
  next y x r => exact W.lcmp hx hb d (nx _ _ _ _ _ H HH locs cells slots arr hok hS hc hs hl)
  next => exact H.elim
theorem s_dup (X : Cx g p s m args meth c A cc own nL) (d : decode cc pc = .ok (.dup, 1)) (nx : Sd g p l e R s m args below meth c A nL Q K (pc + 1)) : Sd g p l e R s m args below meth c A nL Q (oDup K) pc := by
  intro h cb sb ls st H HH locs cells slots arr hok hS hc hs hl
  obtain ⟨hx, hb, hml, hown, hts, hK, hlk, hA⟩ := X
  unfold oDup at H
  split at H
  next x r => exact lv_dup hx hb d rfl (nx _ _ _ _ _ H HH locs cells slots arr hok hS hc hs hl)
  next x r => exact lv_dup hx hb d rfl (nx _ _ _ _ _ H HH locs cells slots arr hok hS hc hs hl)
  next => exact H.elim
theorem s_dup2 (X : Cx g p s m args meth c A cc own nL) (d : decode cc pc = .ok (.dup2, 1)) (nx : Sd g p l e R s m args below meth c A nL Q K (pc + 1)) : Sd g p l e R s m args below meth c A nL Q (oDup2 K) pc := by
  intro h cb sb ls st H HH locs cells slots arr hok hS hc hs hl
  obtain ⟨hx, hb, hml, hown, hts, hK, hlk, hA⟩ := X
  unfold oDup2 at H
  split at H
  next x y r => exact lv_dup2_11 hx hb d rfl rfl (nx _ _ _ _ _ H HH locs cells slots arr hok hS hc hs hl)
  next => exact H.elim
theorem s_goto (X : Cx g p s m args meth c A cc own nL) {off : Int} {tgt : Nat} (d : decode cc pc = .ok (.goto off, 3)) (ht : (pc : Int) + off = (tgt : Int)) (nx : Sd g p l e R s m args below meth c A nL Q K tgt) : Sd g p l e R s m args below meth c A nL Q (oGo K) pc := by
  intro h cb sb ls st H HH locs cells slots arr hok hS hc hs hl
  obtain ⟨hx, hb, hml, hown, hts, hK, hlk, hA⟩ := X
  exact lv_goto hx hb d ht (nx _ _ _ _ _ H HH locs cells slots arr hok hS hc hs hl)
theorem s_fall (nx : Sd g p l e R s m args below meth c A nL Q K pc) : Sd g p l e R s m args below meth c A nL Q (oGo K) pc := nx
theorem s_ifnonnull (X : Cx g p s m args meth c A cc own nL) {off : Int} {tgt : Nat} (d : decode cc pc = .ok (.ifnonnull off, 3)) (ht : (pc : Int) + off = (tgt : Int)) (nt : Sd g p l e R s m args below meth c A nL Q T tgt) (nn : Sd g p l e R s m args below meth c A nL Q N (pc + 3)) : Sd g p l e R s m args below meth c A nL Q (oNonNull T N) pc := by
  intro h cb sb ls st H HH locs cells slots arr hok hS hc hs hl
  obtain ⟨hx, hb, hml, hown, hts, hK, hlk, hA⟩ := X
  unfold oNonNull at H
  split at H
  next x r => exact lv_ifnonnull hx hb d ht (nt _ _ _ _ _ H HH locs cells slots arr hok hS hc hs hl)
  next r => exact lv_ifnonnullN hx hb d (nn _ _ _ _ _ H HH locs cells slots arr hok hS hc hs hl)
  next => exact H.elim
theorem s_icmp_eq (X : Cx g p s m args meth c A cc own nL) {off : Int} {tgt : Nat} (d : decode cc pc = .ok (.if_icmp .eq off, 3)) (ht : (pc : Int) + off = (tgt : Int)) (nt : Sd g p l e R s m args below meth c A nL Q T tgt) (nn : Sd g p l e R s m args below meth c A nL Q N (pc + 3)) : Sd g p l e R s m args below meth c A nL Q (oCmp (fun x y => x = y) T N) pc := by
  intro h cb sb ls st H HH locs cells slots arr hok hS hc hs hl
  obtain ⟨hx, hb, hml, hown, hts, hK, hlk, hA⟩ := X
  unfold oCmp at H
  split at H
  next y x r => exact lv_icmp_eq hx hb d ht (fun q => nt _ _ _ _ _ (H.1 q) HH locs cells slots arr hok hS hc hs hl) (fun q => nn _ _ _ _ _ (H.2 q) HH locs cells slots arr hok hS hc hs hl)
  next => exact H.elim
theorem s_if_eq (X : Cx g p s m args meth c A cc own nL) {off : Int} {tgt : Nat} (d : decode cc pc = .ok (.ifCond .eq off, 3)) (ht : (pc : Int) + off = (tgt : Int)) (nt : Sd g p l e R s m args below meth c A nL Q T tgt) (nn : Sd g p l e R s m args below meth c A nL Q N (pc + 3)) : Sd g p l e R s m args below meth c A nL Q (oIf (fun x => x = 0) T N) pc := by
  intro h cb sb ls st H HH locs cells slots arr hok hS hc hs hl
  obtain ⟨hx, hb, hml, hown, hts, hK, hlk, hA⟩ := X
  unfold oIf at H
  split at H
  next x r => exact lv_if_eq hx hb d ht (fun q => nt _ _ _ _ _ (H.1 q) HH locs cells slots arr hok hS hc hs hl) (fun q => nn _ _ _ _ _ (H.2 q) HH locs cells slots arr hok hS hc hs hl)
  next => exact H.elim
theorem s_icmp_lt (X : Cx g p s m args meth c A cc own nL) {off : Int} {tgt : Nat} (d : decode cc pc = .ok (.if_icmp .lt off, 3)) (ht : (pc : Int) + off = (tgt : Int)) (nt : Sd g p l e R s m args below meth c A nL Q T tgt) (nn : Sd g p l e R s m args below meth c A nL Q N (pc + 3)) : Sd g p l e R s m args below meth c A nL Q (oCmp (fun x y => x < y) T N) pc := by
  intro h cb sb ls st H HH locs cells slots arr hok hS hc hs hl
  obtain ⟨hx, hb, hml, hown, hts, hK, hlk, hA⟩ := X
  unfold oCmp at H
  split at H
  next y x r => exact lv_icmp_lt hx hb d ht (fun q => nt _ _ _ _ _ (H.1 q) HH locs cells slots arr hok hS hc hs hl) (fun q => nn _ _ _ _ _ (H.2 q) HH locs cells slots arr hok hS hc hs hl)
  next => exact H.elim
theorem s_if_lt (X : Cx g p s m args meth c A cc own nL) {off : Int} {tgt : Nat} (d : decode cc pc = .ok (.ifCond .lt off, 3)) (ht : (pc : Int) + off = (tgt : Int)) (nt : Sd g p l e R s m args below meth c A nL Q T tgt) (nn : Sd g p l e R s m args below meth c A nL Q N (pc + 3)) : Sd g p l e R s m args below meth c A nL Q (oIf (fun x => x < 0) T N) pc := by
  intro h cb sb ls st H HH locs cells slots arr hok hS hc hs hl
  obtain ⟨hx, hb, hml, hown, hts, hK, hlk, hA⟩ := X
  unfold oIf at H
  split at H
  next x r => exact lv_if_lt hx hb d ht (fun q => nt _ _ _ _ _ (H.1 q) HH locs cells slots arr hok hS hc hs hl) (fun q => nn _ _ _ _ _ (H.2 q) HH locs cells slots arr hok hS hc hs hl)
  next => exact H.elim
theorem s_icmp_ge (X : Cx g p s m args meth c A cc own nL) {off : Int} {tgt : Nat} (d : decode cc pc = .ok (.if_icmp .ge off, 3)) (ht : (pc : Int) + off = (tgt : Int)) (nt : Sd g p l e R s m args below meth c A nL Q T tgt) (nn : Sd g p l e R s m args below meth c A nL Q N (pc + 3)) : Sd g p l e R s m args below meth c A nL Q (oCmp (fun x y => y ≤ x) T N) pc := by
  intro h cb sb ls st H HH locs cells slots arr hok hS hc hs hl
  obtain ⟨hx, hb, hml, hown, hts, hK, hlk, hA⟩ := X
  unfold oCmp at H
  split at H
  next y x r => exact lv_icmp_ge hx hb d ht (fun q => nt _ _ _ _ _ (H.1 q) HH locs cells slots arr hok hS hc hs hl) (fun q => nn _ _ _ _ _ (H.2 q) HH locs cells slots arr hok hS hc hs hl)
  next => exact H.elim
theorem s_if_ge (X : Cx g p s m args meth c A cc own nL) {off : Int} {tgt : Nat} (d : decode cc pc = .ok (.ifCond .ge off, 3)) (ht : (pc : Int) + off = (tgt : Int)) (nt : Sd g p l e R s m args below meth c A nL Q T tgt) (nn : Sd g p l e R s m args below meth c A nL Q N (pc + 3)) : Sd g p l e R s m args below meth c A nL Q (oIf (fun x => 0 ≤ x) T N) pc := by
  intro h cb sb ls st H HH locs cells slots arr hok hS hc hs hl
  obtain ⟨hx, hb, hml, hown, hts, hK, hlk, hA⟩ := X
  unfold oIf at H
  split at H
  next x r => exact lv_if_ge hx hb d ht (fun q => nt _ _ _ _ _ (H.1 q) HH locs cells slots arr hok hS hc hs hl) (fun q => nn _ _ _ _ _ (H.2 q) HH locs cells slots arr hok hS hc hs hl)
  next => exact H.elim
theorem s_icmp_gt (X : Cx g p s m args meth c A cc own nL) {off : Int} {tgt : Nat} (d : decode cc pc = .ok (.if_icmp .gt off, 3)) (ht : (pc : Int) + off = (tgt : Int)) (nt : Sd g p l e R s m args below meth c A nL Q T tgt) (nn : Sd g p l e R s m args below meth c A nL Q N (pc + 3)) : Sd g p l e R s m args below meth c A nL Q (oCmp (fun x y => y < x) T N) pc := by
  intro h cb sb ls st H HH locs cells slots arr hok hS hc hs hl
  obtain ⟨hx, hb, hml, hown, hts, hK, hlk, hA⟩ := X
  unfold oCmp at H
  split at H
  next y x r => exact lv_icmp_gt hx hb d ht (fun q => nt _ _ _ _ _ (H.1 q) HH locs cells slots arr hok hS hc hs hl) (fun q => nn _ _ _ _ _ (H.2 q) HH locs cells slots arr hok hS hc hs hl)
  next => exact H.elim
theorem s_if_gt (X : Cx g p s m args meth c A cc own nL) {off : Int} {tgt : Nat} (d : decode cc pc = .ok (.ifCond .gt off, 3)) (ht : (pc : Int) + off = (tgt : Int)) (nt : Sd g p l e R s m args below meth c A nL Q T tgt) (nn : Sd g p l e R s m args below meth c A nL Q N (pc + 3)) : Sd g p l e R s m args below meth c A nL Q (oIf (fun x => 0 < x) T N) pc := by
  intro h cb sb ls st H HH locs cells slots arr hok hS hc hs hl
  obtain ⟨hx, hb, hml, hown, hts, hK, hlk, hA⟩ := X
  unfold oIf at H
  split at H
  next x r => exact lv_if_gt hx hb d ht (fun q => nt _ _ _ _ _ (H.1 q) HH locs cells slots arr hok hS hc hs hl) (fun q => nn _ _ _ _ _ (H.2 q) HH locs cells slots arr hok hS hc hs hl)
  next => exact H.elim
theorem s_icmp_le (X : Cx g p s m args meth c A cc own nL) {off : Int} {tgt : Nat} (d : decode cc pc = .ok (.if_icmp .le off, 3)) (ht : (pc : Int) + off = (tgt : Int)) (nt : Sd g p l e R s m args below meth c A nL Q T tgt) (nn : Sd g p l e R s m args below meth c A nL Q N (pc + 3)) : Sd g p l e R s m args below meth c A nL Q (oCmp (fun x y => x ≤ y) T N) pc := by
  intro h cb sb ls st H HH locs cells slots arr hok hS hc hs hl
  obtain ⟨hx, hb, hml, hown, hts, hK, hlk, hA⟩ := X
  unfold oCmp at H
  split at H
  next y x r => exact lv_icmp_le hx hb d ht (fun q => nt _ _ _ _ _ (H.1 q) HH locs cells slots arr hok hS hc hs hl) (fun q => nn _ _ _ _ _ (H.2 q) HH locs cells slots arr hok hS hc hs hl)
  next => exact H.elim
theorem s_if_le (X : Cx g p s m args meth c A cc own nL) {off : Int} {tgt : Nat} (d : decode cc pc = .ok (.ifCond .le off, 3)) (ht : (pc : Int) + off = (tgt : Int)) (nt : Sd g p l e R s m args below meth c A nL Q T tgt) (nn : Sd g p l e R s m args below meth c A nL Q N (pc + 3)) : Sd g p l e R s m args below meth c A nL Q (oIf (fun x => x ≤ 0) T N) pc := by
  intro h cb sb ls st H HH locs cells slots arr hok hS hc hs hl
  obtain ⟨hx, hb, hml, hown, hts, hK, hlk, hA⟩ := X
  unfold oIf at H
  split at H
  next x r => exact lv_if_le hx hb d ht (fun q => nt _ _ _ _ _ (H.1 q) HH locs cells slots arr hok hS hc hs hl) (fun q => nn _ _ _ _ _ (H.2 q) HH locs cells slots arr hok hS hc hs hl)
  next => exact H.elim
theorem s_icmp_ne (X : Cx g p s m args meth c A cc own nL) {off : Int} {tgt : Nat} (d : decode cc pc = .ok (.if_icmp .ne off, 3)) (ht : (pc : Int) + off = (tgt : Int)) (nt : Sd g p l e R s m args below meth c A nL Q T tgt) (nn : Sd g p l e R s m args below meth c A nL Q N (pc + 3)) : Sd g p l e R s m args below meth c A nL Q (oCmp (fun x y => x = y) N T) pc := by
  intro h cb sb ls st H HH locs cells slots arr hok hS hc hs hl
  obtain ⟨hx, hb, hml, hown, hts, hK, hlk, hA⟩ := X
  unfold oCmp at H
  split at H
  next y x r => exact lv_icmp_ne hx hb d ht (fun q => nt _ _ _ _ _ (H.2 q) HH locs cells slots arr hok hS hc hs hl) (fun q => nn _ _ _ _ _ (H.1 q) HH locs cells slots arr hok hS hc hs hl)
  next => exact H.elim
theorem s_if_ne (X : Cx g p s m args meth c A cc own nL) {off : Int} {tgt : Nat} (d : decode cc pc = .ok (.ifCond .ne off, 3)) (ht : (pc : Int) + off = (tgt : Int)) (nt : Sd g p l e R s m args below meth c A nL Q T tgt) (nn : Sd g p l e R s m args below meth c A nL Q N (pc + 3)) : Sd g p l e R s m args below meth c A nL Q (oIf (fun x => x = 0) N T) pc := by
  intro h cb sb ls st H HH locs cells slots arr hok hS hc hs hl
  obtain ⟨hx, hb, hml, hown, hts, hK, hlk, hA⟩ := X
  unfold oIf at H
  split at H
  next x r => exact lv_if_ne hx hb d ht (fun q => nt _ _ _ _ _ (H.2 q) HH locs cells slots arr hok hS hc hs hl) (fun q => nn _ _ _ _ _ (H.1 q) HH locs cells slots arr hok hS hc hs hl)
  next => exact H.elim
end SND
end
section
section SND2
variable {p : Program} {l : Launch} {e : Env} {R : Room} {s : State} {m : MethodId} {args : Array Value} {below : List Frame} {meth : Method} {c : Code} {Q : State → Prop}
variable {g : Gm} {A : Nat → Prop} {cc : ByteArray} {own : String} {nL pc : Nat} {K T N : CT}
/-- a field of an object: one row a class that it may be of -/
def FldG (g : Gm) (s : State) (args : Array Value) (own : String) (index i : Nat) (ci : Nat) : Prop := ∃ (C ref : String) (T1 : u_T) (N1 : Nat), vwCl[ci]? = some (C, T1, N1) ∧ (∀ w ∈ u_ws C T1 N1, w ∈ UW) ∧ i < N1 ∧ Cond.fieldLink own index ref (T1 i).2.1 (T1 i).2.2.1 ∈ UW ∧ (T1 i).1 = ref
theorem s_get (X : Cx g p s m args meth c A cc own nL) {cs : List Nat} {i index : Nat} (d : decode cc pc = .ok (.getfield index, 3)) (hf : ∀ ci ∈ cs, FldG g s args own index i ci) (nx : Sd g p l e R s m args below meth c A nL Q K (pc + 3)) : Sd g p l e R s m args below meth c A nL Q (oGet cs i K) pc := by
  intro h cb sb ls st H HH locs cells slots arr hok hS hc hs hl
  obtain ⟨hx, hb, hml, hown, hts, hK, hlk, hA⟩ := X
  obtain ⟨ws, hP, hD, hr⟩ := hok
  unfold oGet at H
  split at H
  next a r =>
    obtain ⟨ci, fs, v, h1, h2, h3, h4⟩ := H
    obtain ⟨k, hk⟩ := (hr a _).mp h1
    obtain ⟨C, ref, T1, N1, f1, f2, f3, f4, f5⟩ := hf ci h2
    subst f5
    exact va_get (D := g.1) hx hb hts f2 hown hK.1 hP k hk f1 i f3 (hts _ f4) (fun _ h9 => h9) h3 d (nx _ _ _ _ _ h4 HH locs cells slots arr ⟨ws, hP, hD, hr⟩ hS hc hs hl)
  next => exact H.elim
def FldP (g : Gm) (s : State) (args : Array Value) (own : String) (index i : Nat) (fin : Bool) (ty : FieldType) (ci : Nat) : Prop := ∃ (C ref : String) (T1 : u_T) (N1 : Nat) (ty0 : Nat → FieldType), vwCl[ci]? = some (C, T1, N1) ∧ (∀ w ∈ u_ws C T1 N1, w ∈ UW) ∧ i < N1 ∧ Cond.fieldLink own index ref (T1 i).2.1 (T1 i).2.2.1 ∈ UW ∧ (T1 i).1 = ref ∧
  (∀ k, k < N1 → parseFieldDescriptor (T1 k).2.2.1 = some (ty0 k)) ∧ (∀ a, a < N1 → ∀ b, b < N1 → a ≠ b → (T1 a).2.1 ≠ (T1 b).2.1) ∧ (T1 i).2.2.2 = fin ∧ ty0 i = ty
theorem s_putI (X : Cx g p s m args meth c A cc own nL) {cs : List Nat} {i index : Nat} (d : decode cc pc = .ok (.putfield index, 3)) (hf : ∀ ci ∈ cs, FldP g s args own index i false .int ci) (nx : Sd g p l e R s m args below meth c A nL Q K (pc + 3)) : Sd g p l e R s m args below meth c A nL Q (oPutI cs i K) pc := by
  intro h cb sb ls st H HH locs cells slots arr hok hS hc hs hl
  obtain ⟨hx, hb, hml, hown, hts, hK, hlk, hA⟩ := X
  obtain ⟨ws, hP, hD, hr⟩ := hok
  unfold oPutI at H
  split at H
  next x a r =>
    obtain ⟨ci, fs, h1, h2, h3, h4⟩ := H
    obtain ⟨k, hk⟩ := (hr a _).mp h1
    obtain ⟨C, ref, T1, N1, ty0, f1, f2, f3, f4, f5, f6, f7, f8, f9⟩ := hf ci h2
    subst f5
    exact va_put (D := g.1) (ty := .int) hx hb hts f2 ty0 f6 f7 hown hK.1 hP hD hS k hk f1 i f3 (hts _ f4) (fun _ h9 => h9) f8 (by rw [f6 i f3, f9]) rfl rfl h3 d (fun H1 locs1 hP1 hD1 hS1 => nx _ _ _ _ _ h4 H1 locs1 cells slots arr (Hok.put hD hr hk hP1 hD1) hS1 hc hs hl)
  next => exact H.elim
theorem s_putIF (X : Cx g p s m args meth c A cc own nL) {cs : List Nat} {i index : Nat} (d : decode cc pc = .ok (.putfield index, 3)) (hf : ∀ ci ∈ cs, FldP g s args own index i true .int ci) (hini : meth.name = "<init>") (hdc : ∀ ci ∈ cs, ∀ (C : String) (T1 : u_T) (N1 : Nat), vwCl[ci]? = some (C, T1, N1) → (T1 i).1 = own) (nx : Sd g p l e R s m args below meth c A nL Q K (pc + 3)) : Sd g p l e R s m args below meth c A nL Q (oPutI cs i K) pc := by
  intro h cb sb ls st H HH locs cells slots arr hok hS hc hs hl
  obtain ⟨hx, hb, hml, hown, hts, hK, hlk, hA⟩ := X
  obtain ⟨ws, hP, hD, hr⟩ := hok
  unfold oPutI at H
  split at H
  next x a r =>
    obtain ⟨ci, fs, h1, h2, h3, h4⟩ := H
    obtain ⟨k, hk⟩ := (hr a _).mp h1
    obtain ⟨C, ref, T1, N1, ty0, f1, f2, f3, f4, f5, f6, f7, f8, f9⟩ := hf ci h2
    subst f5
    exact va_putF (D := g.1) (ty := .int) hx hb hts f2 ty0 f6 f7 hown hK.1 hP hD hS k hk f1 i f3 (hts _ f4) (fun _ h9 => h9) f8 hini (hdc ci h2 _ _ _ f1) (by rw [f6 i f3, f9]) rfl rfl h3 d (fun H1 locs1 hP1 hD1 hS1 => nx _ _ _ _ _ h4 H1 locs1 cells slots arr (Hok.put hD hr hk hP1 hD1) hS1 hc hs hl)
  next => exact H.elim
theorem s_putZ (X : Cx g p s m args meth c A cc own nL) {cs : List Nat} {i index : Nat} (d : decode cc pc = .ok (.putfield index, 3)) (hf : ∀ ci ∈ cs, FldP g s args own index i false .boolean ci) (nx : Sd g p l e R s m args below meth c A nL Q K (pc + 3)) : Sd g p l e R s m args below meth c A nL Q (oPutZ cs i K) pc := by
  intro h cb sb ls st H HH locs cells slots arr hok hS hc hs hl
  obtain ⟨hx, hb, hml, hown, hts, hK, hlk, hA⟩ := X
  obtain ⟨ws, hP, hD, hr⟩ := hok
  unfold oPutZ at H
  split at H
  next x a r =>
    obtain ⟨hz, ci, fs, h1, h2, h3, h4⟩ := H
    obtain ⟨k, hk⟩ := (hr a _).mp h1
    obtain ⟨C, ref, T1, N1, ty0, f1, f2, f3, f4, f5, f6, f7, f8, f9⟩ := hf ci h2
    subst f5
    exact va_put (D := g.1) (ty := .boolean) hx hb hts f2 ty0 f6 f7 hown hK.1 hP hD hS k hk f1 i f3 (hts _ f4) (fun _ h9 => h9) f8 (by rw [f6 i f3, f9]) (by rcases hz with rfl | rfl <;> rfl) (by rcases hz with rfl | rfl <;> rfl) h3 d (fun H1 locs1 hP1 hD1 hS1 => nx _ _ _ _ _ h4 H1 locs1 cells slots arr (Hok.put hD hr hk hP1 hD1) hS1 hc hs hl)
  next => exact H.elim
theorem s_putZF (X : Cx g p s m args meth c A cc own nL) {cs : List Nat} {i index : Nat} (d : decode cc pc = .ok (.putfield index, 3)) (hf : ∀ ci ∈ cs, FldP g s args own index i true .boolean ci) (hini : meth.name = "<init>") (hdc : ∀ ci ∈ cs, ∀ (C : String) (T1 : u_T) (N1 : Nat), vwCl[ci]? = some (C, T1, N1) → (T1 i).1 = own) (nx : Sd g p l e R s m args below meth c A nL Q K (pc + 3)) : Sd g p l e R s m args below meth c A nL Q (oPutZ cs i K) pc := by
  intro h cb sb ls st H HH locs cells slots arr hok hS hc hs hl
  obtain ⟨hx, hb, hml, hown, hts, hK, hlk, hA⟩ := X
  obtain ⟨ws, hP, hD, hr⟩ := hok
  unfold oPutZ at H
  split at H
  next x a r =>
    obtain ⟨hz, ci, fs, h1, h2, h3, h4⟩ := H
    obtain ⟨k, hk⟩ := (hr a _).mp h1
    obtain ⟨C, ref, T1, N1, ty0, f1, f2, f3, f4, f5, f6, f7, f8, f9⟩ := hf ci h2
    subst f5
    exact va_putF (D := g.1) (ty := .boolean) hx hb hts f2 ty0 f6 f7 hown hK.1 hP hD hS k hk f1 i f3 (hts _ f4) (fun _ h9 => h9) f8 hini (hdc ci h2 _ _ _ f1) (by rw [f6 i f3, f9]) (by rcases hz with rfl | rfl <;> rfl) (by rcases hz with rfl | rfl <;> rfl) h3 d (fun H1 locs1 hP1 hD1 hS1 => nx _ _ _ _ _ h4 H1 locs1 cells slots arr (Hok.put hD hr hk hP1 hD1) hS1 hc hs hl)
  next => exact H.elim
theorem s_putR (X : Cx g p s m args meth c A cc own nL) {cs : List Nat} {i index : Nat} {ty : FieldType} (d : decode cc pc = .ok (.putfield index, 3)) (hty : ∀ v : Value, (v = .null ∨ ∃ a, v = .ref a) → narrow ty v = v ∧ fits ty v = true) (hf : ∀ ci ∈ cs, FldP g s args own index i false ty ci) (nx : Sd g p l e R s m args below meth c A nL Q K (pc + 3)) : Sd g p l e R s m args below meth c A nL Q (oPutR cs i K) pc := by
  intro h cb sb ls st H HH locs cells slots arr hok hS hc hs hl
  obtain ⟨hx, hb, hml, hown, hts, hK, hlk, hA⟩ := X
  obtain ⟨ws, hP, hD, hr⟩ := hok
  unfold oPutR at H
  split at H
  next x a r =>
    obtain ⟨ci, fs, h1, h2, h3, h4⟩ := H
    obtain ⟨k, hk⟩ := (hr a _).mp h1
    obtain ⟨C, ref, T1, N1, ty0, f1, f2, f3, f4, f5, f6, f7, f8, f9⟩ := hf ci h2
    subst f5
    exact va_put (D := g.1) (ty := ty) hx hb hts f2 ty0 f6 f7 hown hK.1 hP hD hS k hk f1 i f3 (hts _ f4) (fun _ h9 => h9) f8 (by rw [f6 i f3, f9]) (hty (.ref x) (by first | exact Or.inl rfl | exact Or.inr ⟨_, rfl⟩)).1 (hty (.ref x) (by first | exact Or.inl rfl | exact Or.inr ⟨_, rfl⟩)).2 h3 d (fun H1 locs1 hP1 hD1 hS1 => nx _ _ _ _ _ h4 H1 locs1 cells slots arr (Hok.put hD hr hk hP1 hD1) hS1 hc hs hl)
  next a r =>
    obtain ⟨ci, fs, h1, h2, h3, h4⟩ := H
    obtain ⟨k, hk⟩ := (hr a _).mp h1
    obtain ⟨C, ref, T1, N1, ty0, f1, f2, f3, f4, f5, f6, f7, f8, f9⟩ := hf ci h2
    subst f5
    exact va_put (D := g.1) (ty := ty) hx hb hts f2 ty0 f6 f7 hown hK.1 hP hD hS k hk f1 i f3 (hts _ f4) (fun _ h9 => h9) f8 (by rw [f6 i f3, f9]) (hty (.null) (by first | exact Or.inl rfl | exact Or.inr ⟨_, rfl⟩)).1 (hty (.null) (by first | exact Or.inl rfl | exact Or.inr ⟨_, rfl⟩)).2 h3 d (fun H1 locs1 hP1 hD1 hS1 => nx _ _ _ _ _ h4 H1 locs1 cells slots arr (Hok.put hD hr hk hP1 hD1) hS1 hc hs hl)
  next => exact H.elim
theorem s_putRF (X : Cx g p s m args meth c A cc own nL) {cs : List Nat} {i index : Nat} {ty : FieldType} (d : decode cc pc = .ok (.putfield index, 3)) (hty : ∀ v : Value, (v = .null ∨ ∃ a, v = .ref a) → narrow ty v = v ∧ fits ty v = true) (hf : ∀ ci ∈ cs, FldP g s args own index i true ty ci) (hini : meth.name = "<init>") (hdc : ∀ ci ∈ cs, ∀ (C : String) (T1 : u_T) (N1 : Nat), vwCl[ci]? = some (C, T1, N1) → (T1 i).1 = own) (nx : Sd g p l e R s m args below meth c A nL Q K (pc + 3)) : Sd g p l e R s m args below meth c A nL Q (oPutR cs i K) pc := by
  intro h cb sb ls st H HH locs cells slots arr hok hS hc hs hl
  obtain ⟨hx, hb, hml, hown, hts, hK, hlk, hA⟩ := X
  obtain ⟨ws, hP, hD, hr⟩ := hok
  unfold oPutR at H
  split at H
  next x a r =>
    obtain ⟨ci, fs, h1, h2, h3, h4⟩ := H
    obtain ⟨k, hk⟩ := (hr a _).mp h1
    obtain ⟨C, ref, T1, N1, ty0, f1, f2, f3, f4, f5, f6, f7, f8, f9⟩ := hf ci h2
    subst f5
    exact va_putF (D := g.1) (ty := ty) hx hb hts f2 ty0 f6 f7 hown hK.1 hP hD hS k hk f1 i f3 (hts _ f4) (fun _ h9 => h9) f8 hini (hdc ci h2 _ _ _ f1) (by rw [f6 i f3, f9]) (hty (.ref x) (by first | exact Or.inl rfl | exact Or.inr ⟨_, rfl⟩)).1 (hty (.ref x) (by first | exact Or.inl rfl | exact Or.inr ⟨_, rfl⟩)).2 h3 d (fun H1 locs1 hP1 hD1 hS1 => nx _ _ _ _ _ h4 H1 locs1 cells slots arr (Hok.put hD hr hk hP1 hD1) hS1 hc hs hl)
  next a r =>
    obtain ⟨ci, fs, h1, h2, h3, h4⟩ := H
    obtain ⟨k, hk⟩ := (hr a _).mp h1
    obtain ⟨C, ref, T1, N1, ty0, f1, f2, f3, f4, f5, f6, f7, f8, f9⟩ := hf ci h2
    subst f5
    exact va_putF (D := g.1) (ty := ty) hx hb hts f2 ty0 f6 f7 hown hK.1 hP hD hS k hk f1 i f3 (hts _ f4) (fun _ h9 => h9) f8 hini (hdc ci h2 _ _ _ f1) (by rw [f6 i f3, f9]) (hty (.null) (by first | exact Or.inl rfl | exact Or.inr ⟨_, rfl⟩)).1 (hty (.null) (by first | exact Or.inl rfl | exact Or.inr ⟨_, rfl⟩)).2 h3 d (fun H1 locs1 hP1 hD1 hS1 => nx _ _ _ _ _ h4 H1 locs1 cells slots arr (Hok.put hD hr hk hP1 hD1) hS1 hc hs hl)
  next => exact H.elim
theorem rt_obj {C : String} : ∀ v : Value, (v = .null ∨ ∃ a, v = .ref a) → narrow (.object C) v = v ∧ fits (.object C) v = true := by
  rintro v (rfl | ⟨a, rfl⟩) <;> exact ⟨rfl, rfl⟩
theorem rt_arr {t : FieldType} : ∀ v : Value, (v = .null ∨ ∃ a, v = .ref a) → narrow (.array t) v = v ∧ fits (.array t) v = true := by
  rintro v (rfl | ⟨a, rfl⟩) <;> exact ⟨rfl, rfl⟩
theorem s_iaload (X : Cx g p s m args meth c A cc own nL) (d : decode cc pc = .ok (.iaload, 1)) (nx : Sd g p l e R s m args below meth c A nL Q K (pc + 1)) : Sd g p l e R s m args below meth c A nL Q (oIAL g K) pc := by
  intro h cb sb ls st H HH locs cells slots arr hok hS hc hs hl
  obtain ⟨hx, hb, hml, hown, hts, hK, hlk, hA⟩ := X
  obtain ⟨ws, hP, hD, hr⟩ := hok
  unfold oIAL at H
  split at H
  next i a r =>
    obtain ⟨n, f, h1, h2, h3⟩ := H
    obtain ⟨k, hk⟩ := (hr a _).mp h1
    exact va_iald hx hb hK.1 hP k 0 hk rfl h2 d (nx _ _ _ _ _ h3 HH locs cells slots arr ⟨ws, hP, hD, hr⟩ hS hc hs hl)
  next => exact H.elim
theorem s_laload (X : Cx g p s m args meth c A cc own nL) (d : decode cc pc = .ok (.laload, 1)) (nx : Sd g p l e R s m args below meth c A nL Q K (pc + 1)) : Sd g p l e R s m args below meth c A nL Q (oJAL g K) pc := by
  intro h cb sb ls st H HH locs cells slots arr hok hS hc hs hl
  obtain ⟨hx, hb, hml, hown, hts, hK, hlk, hA⟩ := X
  obtain ⟨ws, hP, hD, hr⟩ := hok
  unfold oJAL at H
  split at H
  next i a r =>
    obtain ⟨n, f, h1, h2, h3⟩ := H
    obtain ⟨k, hk⟩ := (hr a _).mp h1
    exact va_lald hx hb hK.1 hP k 1 hk rfl h2 d (nx _ _ _ _ _ h3 HH locs cells slots arr ⟨ws, hP, hD, hr⟩ hS hc hs hl)
  next => exact H.elim
theorem s_zaload (X : Cx g p s m args meth c A cc own nL) (d : decode cc pc = .ok (.baload, 1)) (nx : Sd g p l e R s m args below meth c A nL Q K (pc + 1)) : Sd g p l e R s m args below meth c A nL Q (oZAL g K) pc := by
  intro h cb sb ls st H HH locs cells slots arr hok hS hc hs hl
  obtain ⟨hx, hb, hml, hown, hts, hK, hlk, hA⟩ := X
  obtain ⟨ws, hP, hD, hr⟩ := hok
  unfold oZAL at H
  split at H
  next i a r =>
    obtain ⟨n, f, h1, h2, h3⟩ := H
    obtain ⟨k, hk⟩ := (hr a _).mp h1
    exact va_zald hx hb hK.1 hP k 2 hk rfl h2 d (nx _ _ _ _ _ h3 HH locs cells slots arr ⟨ws, hP, hD, hr⟩ hS hc hs hl)
  next => exact H.elim
theorem s_iastore (X : Cx g p s m args meth c A cc own nL) (d : decode cc pc = .ok (.iastore, 1)) (nx : Sd g p l e R s m args below meth c A nL Q K (pc + 1)) : Sd g p l e R s m args below meth c A nL Q (oIAS g K) pc := by
  intro h cb sb ls st H HH locs cells slots arr hok hS hc hs hl
  obtain ⟨hx, hb, hml, hown, hts, hK, hlk, hA⟩ := X
  obtain ⟨ws, hP, hD, hr⟩ := hok
  unfold oIAS at H
  split at H
  next x i a r =>
    obtain ⟨n, f, h1, h2, h3⟩ := H
    obtain ⟨k, hk⟩ := (hr a _).mp h1
    exact va_iast hx hb hK.1 hP hD hS k 0 hk rfl h2 d (fun H1 locs1 hP1 hD1 hS1 => nx _ _ _ _ _ h3 H1 locs1 cells slots arr (Hok.put hD hr hk hP1 hD1) hS1 hc hs hl)
  next => exact H.elim
theorem s_lastore (X : Cx g p s m args meth c A cc own nL) (d : decode cc pc = .ok (.lastore, 1)) (nx : Sd g p l e R s m args below meth c A nL Q K (pc + 1)) : Sd g p l e R s m args below meth c A nL Q (oJAS g K) pc := by
  intro h cb sb ls st H HH locs cells slots arr hok hS hc hs hl
  obtain ⟨hx, hb, hml, hown, hts, hK, hlk, hA⟩ := X
  obtain ⟨ws, hP, hD, hr⟩ := hok
  unfold oJAS at H
  split at H
  next x i a r =>
    obtain ⟨n, f, h1, h2, h3⟩ := H
    obtain ⟨k, hk⟩ := (hr a _).mp h1
    exact va_last hx hb hK.1 hP hD hS k 1 hk rfl h2 d (fun H1 locs1 hP1 hD1 hS1 => nx _ _ _ _ _ h3 H1 locs1 cells slots arr (Hok.put hD hr hk hP1 hD1) hS1 hc hs hl)
  next => exact H.elim
theorem s_alen (X : Cx g p s m args meth c A cc own nL) (d : decode cc pc = .ok (.arraylength, 1)) (nx : Sd g p l e R s m args below meth c A nL Q K (pc + 1)) : Sd g p l e R s m args below meth c A nL Q (oLen g K) pc := by
  intro h cb sb ls st H HH locs cells slots arr hok hS hc hs hl
  obtain ⟨hx, hb, hml, hown, hts, hK, hlk, hA⟩ := X
  obtain ⟨ws, hP, hD, hr⟩ := hok
  unfold oLen at H
  split at H
  next a r =>
    obtain ⟨n, f, h1, h3⟩ := H
    obtain ⟨k, hk⟩ := (hr a _).mp h1
    exact va_alen hx hb hK.1 hP k 0 hk rfl rfl d (nx _ _ _ _ _ h3 HH locs cells slots arr ⟨ws, hP, hD, hr⟩ hS hc hs hl)
  next => exact H.elim
end SND2
end
section
section SND3
variable {p : Program} {l : Launch} {e : Env} {R : Room} {s : State} {m : MethodId} {args : Array Value} {below : List Frame} {meth : Method} {c : Code} {Q : State → Prop}
variable {g : Gm} {A : Nat → Prop} {cc : ByteArray} {own : String} {nL pc : Nat} {K T N : CT}
theorem s_zastore (X : Cx g p s m args meth c A cc own nL) (d : decode cc pc = .ok (.bastore, 1)) (nx : Sd g p l e R s m args below meth c A nL Q K (pc + 1)) : Sd g p l e R s m args below meth c A nL Q (oZAS g K) pc := by
  intro h cb sb ls st H HH locs cells slots arr hok hS hc hs hl
  obtain ⟨hx, hb, hml, hown, hts, hK, hlk, hA⟩ := X
  obtain ⟨ws, hP, hD, hr⟩ := hok
  unfold oZAS at H
  split at H
  next x i a r =>
    obtain ⟨hz, n, f, h1, h2, h3⟩ := H
    obtain ⟨k, hk⟩ := (hr a _).mp h1
    have e1 : vp_nar .boolean x = x := by rcases hz with rfl | rfl <;> rfl
    refine va_zast hx hb hK.1 hP hD hS k 2 hk rfl h2 d (fun H1 locs1 hP1 hD1 hS1 => ?_)
    rw [e1] at hP1 hD1
    exact nx _ _ _ _ _ h3 H1 locs1 cells slots arr (Hok.put hD hr hk hP1 hD1) hS1 hc hs hl
  next => exact H.elim
theorem s_aaload (X : Cx g p s m args meth c A cc own nL) {t : Nat} {ty : FieldType} (ht : ∀ g' : Gm, (arrTys g')[t]? = some (g'.2 t, ty)) (hty : ty.isReference = true) (d : decode cc pc = .ok (.aaload, 1)) (nx : Sd g p l e R s m args below meth c A nL Q K (pc + 1)) : Sd g p l e R s m args below meth c A nL Q (oRAL g t K) pc := by
  intro h cb sb ls st H HH locs cells slots arr hok hS hc hs hl
  obtain ⟨hx, hb, hml, hown, hts, hK, hlk, hA⟩ := X
  obtain ⟨ws, hP, hD, hr⟩ := hok
  unfold oRAL at H
  split at H
  next i a r =>
    obtain ⟨n, f, y, h1, h2, h3, h4⟩ := H
    obtain ⟨k, hk⟩ := (hr a _).mp h1
    have hlt : i.toNatClampNeg < n := Nat.not_le.mp fun q => h2 (Or.inr q)
    exact W.aald (v := .ref y) (ty := ty) hx hb (hP k _ hk) ((hK.1.2 t _ (ht g)).1 n (fun j => va_rf (f j))) hty (fun q => by cases q) (by show ¬ (i < 0 ∨ (arrV _ _ _).slots.size ≤ _); rw [arrV_size]; exact h2) (by show (arrV _ _ _).slots[_]? = _; rw [arrV_read _ _ hlt, h3]; rfl) rfl rfl d (nx _ _ _ _ _ h4 HH locs cells slots arr ⟨ws, hP, hD, hr⟩ hS hc hs hl)
  next => exact H.elim
/-- an object of class ci may stand in an array over E -/
def AsgOk (g : Gm) (s : State) (E : String) (ci : Nat) : Prop := ∃ r : vw_C, vwCl[ci]? = some r ∧ ∀ comp c0 : ClassId, s.vm.findClass E = some comp → s.vm.findClass r.1 = some c0 → s.vm.assignable c0 comp = true
theorem AsgOk.self {E : String} {T1 : u_T} {N1 ci : Nat} (h : vwCl[ci]? = some (E, T1, N1)) : AsgOk g s E ci := ⟨_, h, fun comp c0 h1 h2 => by
  have e : some comp = some c0 := h1.symm.trans h2
  cases e
  exact va_asg _ _⟩
theorem s_aastore (X : Cx g p s m args meth c A cc own nL) {t : Nat} {E : String} {cs : List Nat} (ht : ∀ g' : Gm, (arrTys g')[t]? = some (g'.2 t, .object E)) (hasg : ∀ ci ∈ cs, AsgOk g s E ci) (d : decode cc pc = .ok (.aastore, 1)) (nx : Sd g p l e R s m args below meth c A nL Q K (pc + 1)) : Sd g p l e R s m args below meth c A nL Q (oRAS g t cs K) pc := by
  intro h cb sb ls st H HH locs cells slots arr hok hS hc hs hl
  obtain ⟨hx, hb, hml, hown, hts, hK, hlk, hA⟩ := X
  obtain ⟨ws, hP, hD, hr⟩ := hok
  unfold oRAS at H
  split at H
  next v i a r =>
    obtain ⟨n, f, ci, fs, h1, h2, h3, h4, h5⟩ := H
    obtain ⟨k, hk⟩ := (hr a _).mp h1
    obtain ⟨kv, hkv⟩ := (hr v _).mp h2
    obtain ⟨rr, g1, g2⟩ := hasg ci h3
    exact va_astqM hx hb hK.1 hP hD hS k t hk (ht g) (va_rAny hK.1 hP hkv g1 g2) h4 d (fun H1 locs1 hP1 hD1 hS1 => nx _ _ _ _ _ h5 H1 locs1 cells slots arr (Hok.put hD hr hk hP1 hD1) hS1 hc hs hl)
  next => exact H.elim
theorem s_new (X : Cx g p s m args meth c A cc own nL) {ci N1 index : Nat} {C : String} {T1 : u_T} {ds : List Value} (ty : Nat → FieldType) (hty : ∀ k, k < N1 → parseFieldDescriptor (T1 k).2.2.1 = some (ty k)) (hcl : vwCl[ci]? = some (C, T1, N1)) (hin : ∀ w ∈ u_ws C T1 N1, w ∈ UW) (hlnk : Cond.classLink own index C ∈ UW) (hins : Cond.instantiable C N1 ∈ UW) (hini : Cond.initialized C ∈ UW) (hds : ∀ j, j < N1 → defaultValue (ty j) = vp_V ds j) (d : decode cc pc = .ok (.new index, 3)) (nx : Sd g p l e R s m args below meth c A nL Q K (pc + 3)) : Sd g p l e R s m args below meth c A nL Q (oNew ci N1 ds K) pc := by
  intro h cb sb ls st H HH locs cells slots arr hok hS hc hs hl
  obtain ⟨hx, hb, hml, hown, hts, hK, hlk, hA⟩ := X
  obtain ⟨ws, hP, hD, hr⟩ := hok
  obtain ⟨h1, h2, h3⟩ := H
  refine va_new hx hb hts hin ty hty hown (hts _ hlnk) (hts _ hins) (hts _ hini) hK.1 hP hD hS hA hcl hds (by omega) (by omega) d (fun q H1 hP1 hD1 hS1 => ?_)
  obtain ⟨hn, hk⟩ := Hok.push hr hP1 hD1
  exact nx _ _ _ _ _ (h3 q hn) H1 locs (cells + 1) (slots + N1) arr hk hS1 (by omega) (by omega) hl
theorem s_newI (X : Cx g p s m args meth c A cc own nL) (hw : Cond.arrayClass .int ∈ UW) (d : decode cc pc = .ok (.newarray .int, 2)) (nx : Sd g p l e R s m args below meth c A nL Q K (pc + 2)) : Sd g p l e R s m args below meth c A nL Q (oNewI g K) pc := by
  intro h cb sb ls st H HH locs cells slots arr hok hS hc hs hl
  obtain ⟨hx, hb, hml, hown, hts, hK, hlk, hA⟩ := X
  obtain ⟨ws, hP, hD, hr⟩ := hok
  unfold oNewI at H
  split at H
  next n r =>
    obtain ⟨M, rfl, h1, h2, h3, h4⟩ := H
    refine va_newa (atype := .int) (ty := .int) (a0 := (M, .inl (fun _ => 0))) hx hb (hts _ hw) rfl hK.1 hP hD hS hA (fun cA => rfl) (nI_pos (by omega)) (nI_clamp (by omega)) (by show M * 4 ≤ 536870912; omega) (by omega) (by omega) d (fun q cA H1 hK1 hP1 hD1 hS1 => ?_)
    have e1 : cA = g.2 0 := by
      have a1 := (hK1.2 (arrTys g).length (cA, .int) (by simp)).2
      have a2 := (hK.1.2 0 (g.2 0, .int) rfl).2
      exact Option.some.inj (Eq.trans (Eq.symm a1) a2)
    subst e1
    obtain ⟨hn, hk⟩ := Hok.push hr hP1 hD1
    exact nx _ _ _ _ _ (h4 q hn) H1 locs (cells + 1) (slots + M) arr hk hS1 (by omega) (by omega) hl
  next => exact H.elim
theorem s_newJ (X : Cx g p s m args meth c A cc own nL) (hw : Cond.arrayClass .long ∈ UW) (d : decode cc pc = .ok (.newarray .long, 2)) (nx : Sd g p l e R s m args below meth c A nL Q K (pc + 2)) : Sd g p l e R s m args below meth c A nL Q (oNewJ g K) pc := by
  intro h cb sb ls st H HH locs cells slots arr hok hS hc hs hl
  obtain ⟨hx, hb, hml, hown, hts, hK, hlk, hA⟩ := X
  obtain ⟨ws, hP, hD, hr⟩ := hok
  unfold oNewJ at H
  split at H
  next n r =>
    obtain ⟨M, rfl, h1, h2, h3, h4⟩ := H
    refine va_newa (atype := .long) (ty := .long) (a0 := (M, .inr (.inl (fun _ => 0)))) hx hb (hts _ hw) rfl hK.1 hP hD hS hA (fun cA => rfl) (nI_pos (by omega)) (nI_clamp (by omega)) (by show M * 8 ≤ 536870912; omega) (by omega) (by omega) d (fun q cA H1 hK1 hP1 hD1 hS1 => ?_)
    have e1 : cA = g.2 1 := by
      have a1 := (hK1.2 (arrTys g).length (cA, .long) (by simp)).2
      have a2 := (hK.1.2 1 (g.2 1, .long) rfl).2
      exact Option.some.inj (Eq.trans (Eq.symm a1) a2)
    subst e1
    obtain ⟨hn, hk⟩ := Hok.push hr hP1 hD1
    exact nx _ _ _ _ _ (h4 q hn) H1 locs (cells + 1) (slots + M) arr hk hS1 (by omega) (by omega) hl
  next => exact H.elim
theorem s_newZ (X : Cx g p s m args meth c A cc own nL) (hw : Cond.arrayClass .boolean ∈ UW) (d : decode cc pc = .ok (.newarray .boolean, 2)) (nx : Sd g p l e R s m args below meth c A nL Q K (pc + 2)) : Sd g p l e R s m args below meth c A nL Q (oNewZ g K) pc := by
  intro h cb sb ls st H HH locs cells slots arr hok hS hc hs hl
  obtain ⟨hx, hb, hml, hown, hts, hK, hlk, hA⟩ := X
  obtain ⟨ws, hP, hD, hr⟩ := hok
  unfold oNewZ at H
  split at H
  next n r =>
    obtain ⟨M, rfl, h1, h2, h3, h4⟩ := H
    refine va_newa (atype := .boolean) (ty := .boolean) (a0 := (M, .inl (fun _ => 0))) hx hb (hts _ hw) rfl hK.1 hP hD hS hA (fun cA => rfl) (nI_pos (by omega)) (nI_clamp (by omega)) (by show M * 1 ≤ 536870912; omega) (by omega) (by omega) d (fun q cA H1 hK1 hP1 hD1 hS1 => ?_)
    have e1 : cA = g.2 2 := by
      have a1 := (hK1.2 (arrTys g).length (cA, .boolean) (by simp)).2
      have a2 := (hK.1.2 2 (g.2 2, .boolean) rfl).2
      exact Option.some.inj (Eq.trans (Eq.symm a1) a2)
    subst e1
    obtain ⟨hn, hk⟩ := Hok.push hr hP1 hD1
    exact nx _ _ _ _ _ (h4 q hn) H1 locs (cells + 1) (slots + M) arr hk hS1 (by omega) (by omega) hl
  next => exact H.elim
theorem s_newR (X : Cx g p s m args meth c A cc own nL) {t index : Nat} {C : String} (ht : ∀ g' : Gm, (arrTys g')[t]? = some (g'.2 t, .object C)) (hov : va_AO C s) (hlnk : Cond.classLink own index C ∈ UW) (d : decode cc pc = .ok (.anewarray index, 3)) (nx : Sd g p l e R s m args below meth c A nL Q K (pc + 3)) : Sd g p l e R s m args below meth c A nL Q (oNewR g t K) pc := by
  intro h cb sb ls st H HH locs cells slots arr hok hS hc hs hl
  obtain ⟨hx, hb, hml, hown, hts, hK, hlk, hA⟩ := X
  obtain ⟨ws, hP, hD, hr⟩ := hok
  unfold oNewR at H
  split at H
  next n r =>
    obtain ⟨M, rfl, h1, h2, h3, h4⟩ := H
    refine va_newq hx hb hown (hts _ hlnk) hov hK.1 hP hD hS hA (nI_pos (by omega)) (nI_clamp (by omega)) (by omega) (by omega) (by omega) d (fun q cA H1 hK1 hP1 hD1 hS1 => ?_)
    have e1 : cA = g.2 t := by
      obtain ⟨-, -, -, -, -, a1⟩ := (hK1.2 (arrTys g).length (cA, .object C) (by simp)).2
      obtain ⟨-, -, -, -, -, a2⟩ := (hK.1.2 t _ (ht g)).2
      exact Option.some.inj (Eq.trans (Eq.symm a1) a2)
    subst e1
    obtain ⟨hn, hk⟩ := Hok.push hr hP1 hD1
    exact nx _ _ _ _ _ (h4 q hn) H1 locs (cells + 1) (slots + M) arr hk hS1 (by omega) (by omega) hl
  next => exact H.elim
theorem s_inst (X : Cx g p s m args meth c A cc own nL) {tab : List (Nat × Int32)} {index : Nat} {nm : String} (hlnk : Cond.classLink own index nm ∈ UW) (htab : ∀ (ci : Nat) (b : Int32), (ci, b) ∈ tab → ∃ (C : String) (T1 : u_T) (N1 : Nat), vwCl[ci]? = some (C, T1, N1) ∧ ((b = 1 ∧ (va_Nw (.castable C nm) s ∨ C = nm)) ∨ (b = 0 ∧ va_Nc C nm s))) (d : decode cc pc = .ok (.instanceof index, 3)) (nx : Sd g p l e R s m args below meth c A nL Q K (pc + 3)) : Sd g p l e R s m args below meth c A nL Q (oInst tab K) pc := by
  intro h cb sb ls st H HH locs cells slots arr hok hS hc hs hl
  obtain ⟨hx, hb, hml, hown, hts, hK, hlk, hA⟩ := X
  obtain ⟨ws, hP, hD, hr⟩ := hok
  unfold oInst at H
  split at H
  next a r =>
    obtain ⟨ci, fs, b, h1, h2, h3⟩ := H
    obtain ⟨k, hk⟩ := (hr a _).mp h1
    obtain ⟨C, T1, N1, g1, g2⟩ := htab ci b h2
    have hrc := va_recv hK.1 hP g1 hk
    have fin := nx _ _ _ _ _ h3 HH locs cells slots arr ⟨ws, hP, hD, hr⟩ hS hc hs hl
    rcases g2 with ⟨rfl, g3 | g3⟩ | ⟨rfl, g3⟩
    · exact va_instY hx hb hown (hts _ hlnk) g3 hrc d fin
    · subst g3
      obtain ⟨-, hcat⟩ := hK.1.1 ci _ g1
      exact va_instS hx hb hown (hts _ hlnk) hcat hrc d fin
    · exact va_instNo hx hb hown (hts _ hlnk) g3 hrc d fin
  next => exact H.elim
theorem s_obj (X : Cx g p s m args meth c A cc own nL) {index : Nat} (hlnk : Cond.methodLink own index objectInit ∈ UW) (hin : Cond.instanceMethod objectInit ∈ UW) (hcd : Cond.code objectInit ⟨#[0xb1]⟩ 1 none ∈ UW) (hfr : 1 ≤ R.frames) (hlo : 20 ≤ R.locals) (d : decode cc pc = .ok (.invokespecial index, 3)) (nx : Sd g p l e R s m args below meth c A nL Q K (pc + 3)) : Sd g p l e R s m args below meth c A nL Q (fun h cb sb ls st => Nat.ble st.length 5 = true ∧ oObj K h cb sb ls st) pc := by
  intro h cb sb ls st H HH locs cells slots arr hok hS hc hs hl
  obtain ⟨hx, hb, hml, hown, hts, hK, hlk, hA⟩ := X
  obtain ⟨hlen, H⟩ := H
  unfold oObj at H
  split at H
  next a r =>
    refine W.objInit hx hb hown (hts _ hlnk) (hts _ hin) (hts _ hcd) rfl (by rw [hml]; exact hl.2.1) rfl d hfr ?_ (nx _ _ _ _ _ H HH locs cells slots arr hok hS hc hs hl)
    have h8 : (r.map fun v => v.category).sum ≤ 8 := by
      have h4 : r.length ≤ 4 := by have := Nat.le_of_ble_eq_true hlen; simpa using this
      have : ∀ r : List Value, (r.map fun v => v.category).sum ≤ 2 * r.length := by
        intro r
        induction r with
        | nil => simp
        | cons v r ih => have := lv_cat v; simp only [List.map_cons, List.sum_cons, List.length_cons]; omega
      have := this r
      omega
    have h9 := lv_room (m := m) (pc := pc) (ls := arr) (rest := (Value.ref a :: r)) h8
    omega
  next => exact H.elim
theorem cat_sum (r : List Value) (h : r.length ≤ 4) : (r.map fun v => v.category).sum ≤ 8 := by
  have : ∀ r : List Value, (r.map fun v => v.category).sum ≤ 2 * r.length := by
    intro r
    induction r with
    | nil => simp
    | cons v r ih => have := lv_cat v; simp only [List.map_cons, List.sum_cons, List.length_cons]; omega
  have := this r
  omega
theorem s_max (X : Cx g p s m args meth c A cc own nL) {index : Nat} (hlnk : Cond.methodLink own index Lib.Math.max.name ∈ UW) (hst : Cond.static Lib.Math.max.name ∈ UW) (hin : Cond.initialized "java/lang/Math" ∈ UW) (hcd : Cond.code Lib.Math.max.name Lib.Math.max.code 2 (some .int) ∈ UW) (hfr : 1 ≤ R.frames) (hlo : 21 ≤ R.locals) (d : decode cc pc = .ok (.invokestatic index, 3)) (nx : Sd g p l e R s m args below meth c A nL Q K (pc + 3)) : Sd g p l e R s m args below meth c A nL Q (oMax K) pc := by
  intro h cb sb ls st H HH locs cells slots arr hok hS hc hs hl
  obtain ⟨hx, hb, hml, hown, hts, hK, hlk, hA⟩ := X
  unfold oMax at H
  split at H
  next y x r =>
    have h8 := cat_sum r (Nat.le_of_ble_eq_true H.1)
    exact va_mmax hx hb (by rw [hml]; exact hl.2.1.symm) hown (hts _ hlnk) (hts _ hst) (hts _ hin) (hts _ hcd) hfr (by omega) (by omega) (by omega) d (nx _ _ _ _ _ H.2 HH locs cells slots arr hok hS hc hs hl)
  next => exact H.elim
theorem s_copy (X : Cx g p s m args meth c A cc own nL) {index : Nat} (hlnk : Cond.methodLink own index arraycopyName ∈ UW) (hnt : Cond.native arraycopyName ∈ UW) (hst : Cond.static arraycopyName ∈ UW) (hin : Cond.initialized "java/lang/System" ∈ UW) (hfr : 1 ≤ R.frames) (hlo : 18 ≤ R.locals) (d : decode cc pc = .ok (.invokestatic index, 3)) (nx : Sd g p l e R s m args below meth c A nL Q K (pc + 3)) : Sd g p l e R s m args below meth c A nL Q (oCopy g K) pc := by
  intro h cb sb ls st H HH locs cells slots arr hok hS hc hs hl
  obtain ⟨hx, hb, hml, hown, hts, hK, hlk, hA⟩ := X
  obtain ⟨ws, hP, hD, hr⟩ := hok
  unfold oCopy at H
  split at H
  next n dp b sp a =>
    obtain ⟨n0, n1, f, f1, h1, h2, h3, h4, h5, h6, h7, h8⟩ := H
    obtain ⟨k, hk⟩ := (hr a _).mp h1
    obtain ⟨kb, hkb⟩ := (hr b _).mp h2
    have hnw : nativeFrameWords "java/lang/System" "arraycopy" 5 = 7 := by decide +kernel
    have hlo2 : (([] : List Value).map fun v => v.category).sum + (nativeFrameWords "java/lang/System" "arraycopy" 5 + 11) ≤ R.locals := by rw [hnw]; show 0 + 18 ≤ R.locals; omega
    exact va_copyi (rest := []) hx hb (by rw [hml]; exact hl.2.1.symm) hown (hts _ hlnk) (hts _ hnt) (hts _ hst) (hts _ hin) hK.1 hP hD hS k kb 0 0 hk hkb rfl rfl rfl h3 h4 h5 h6 h7 (fun i _ => rfl) hfr hlo2 d (fun H1 locs1 hP1 hD1 hS1 => nx _ _ _ _ _ h8 H1 locs1 cells slots arr (Hok.put hD hr hkb hP1 hD1) hS1 hc hs hl)
  next => exact H.elim
end SND3
end
section
section SND4
variable {p : Program} {l : Launch} {e : Env} {R : Room} {s : State} {m : MethodId} {args : Array Value} {below : List Frame} {meth : Method} {c : Code} {Q : State → Prop}
variable {g : Gm} {A : Nat → Prop} {cc : ByteArray} {own : String} {nL pc : Nat} {K T N : CT}
theorem s_mna (X : Cx g p s m args meth c A cc own nL) {index N1 M1 : Nat} (hlnk : Cond.classLink own index "[[I" ∈ UW) (hac : Cond.arrayClass .int ∈ UW) (d : decode cc pc = .ok (.multianewarray index 2, 4)) (nx : Sd g p l e R s m args below meth c A nL Q K (pc + 4)) : Sd g p l e R s m args below meth c A nL Q (oNewII g N1 M1 K) pc := by
  intro h cb sb ls st H HH locs cells slots arr hok hS hc hs hl
  obtain ⟨hx, hb, hml, hown, hts, hK, hlk, hA⟩ := X
  obtain ⟨ws, hP, hD, hr⟩ := hok
  unfold oNewII at H
  split at H
  next m1 n1 rs =>
    obtain ⟨rfl, rfl, h1, h2, h3, h4, h5⟩ := H
    have hnm : "[" ++ (FieldType.array .int).toString = "[[I" := by decide +kernel
    have hP0 : va_P g.1 vwCl (ws ++ va_pl [] (fun _ => .inr (0, []))) HH := by rw [show va_pl [] (fun _ => (Sum.inr (0, []) : va_E)) = [] from rfl, List.append_nil]; exact hP
    have hD0 : va_D A (ws ++ va_pl [] (fun _ => .inr (0, []))) := by rw [show va_pl [] (fun _ => (Sum.inr (0, []) : va_E)) = [] from rfl, List.append_nil]; exact hD
    have hcy : s.vm.findClass (FieldType.array .int).toString = some (g.2 0) := (hK.1.2 0 (g.2 0, .int) rfl).2
    refine va_mna (ty := .int) (cy := g.2 0) (N' := N1) (K' := M1) (z := (M1, .inl (fun _ => 0))) hx hb hown (by rw [hnm]; exact hts _ hlnk) hK.2.1.2.2.2 (hts _ hac) hcy hK.1 hP0 hD0 hS hA (nI_pos (by omega)) (nI_pos (by omega)) (nI_clamp (by omega)) (nI_clamp (by omega)) (by omega) (by show M1 * 4 ≤ 536870912; omega) (by omega) rfl rfl (by omega) (by omega) (fun c1 => arrV_new _ _ _) d (fun q r cA H1 hinj hnl hK1 hP1 hD1 hS1 => ?_)
    have e1 : cA = g.2 6 := by
      have a1 := (hK1.2 (arrTys g).length (cA, .array .int) (by simp)).2
      have a2 := (hK.1.2 6 (g.2 6, .array .int) rfl).2
      exact Option.some.inj (Eq.trans (Eq.symm a1) a2)
    subst e1
    have hmem : ∀ (a : Nat) (x : va_E), h a = some x ↔ (a, x) ∈ ws := fun a x => by rw [hr, List.mem_iff_getElem?]
    have uniq : ∀ (a : Nat) (x y : va_E) (i j : Nat), ((ws ++ [(q, aR g 6 N1 (fun i => if i < N1 then some (r i) else none))]) ++ va_pl ([] ++ (List.range N1).map r) (vr_up (fun _ => .inr (0, [])) ((List.range N1).map r) (.inl (g.2 0, (M1, .inl (fun _ => 0))))))[i]? = some (a, x) → ((ws ++ [(q, aR g 6 N1 (fun i => if i < N1 then some (r i) else none))]) ++ va_pl ([] ++ (List.range N1).map r) (vr_up (fun _ => .inr (0, [])) ((List.range N1).map r) (.inl (g.2 0, (M1, .inl (fun _ => 0))))))[j]? = some (a, y) → i = j := fun a x y i j hi hj => hD1.1 i j _ _ hi hj rfl
    generalize hW : (ws ++ [(q, aR g 6 N1 (fun i => if i < N1 then some (r i) else none))]) ++ va_pl ([] ++ (List.range N1).map r) (vr_up (fun _ => .inr (0, [])) ((List.range N1).map r) (.inl (g.2 0, (M1, .inl (fun _ => 0))))) = ws2 at hP1 hD1 uniq
    have hm2 : ∀ y : Nat × va_E, y ∈ ws2 ↔ (y ∈ ws ∨ y = (q, aR g 6 N1 (fun i => if i < N1 then some (r i) else none)) ∨ ∃ i, i < N1 ∧ y = (r i, aI g M1 (fun _ => 0))) := fun y => by
      rw [← hW, List.mem_append, List.mem_append, List.mem_singleton, or_assoc]
      refine or_congr Iff.rfl (or_congr Iff.rfl ?_)
      unfold va_pl
      rw [List.nil_append, List.mem_map]
      constructor
      · rintro ⟨a, ha, rfl⟩
        rw [vr_up_in ha]
        obtain ⟨i, hi, rfl⟩ := List.mem_map.mp ha
        exact ⟨i, List.mem_range.mp hi, rfl⟩
      · rintro ⟨i, hi, rfl⟩
        have ha : r i ∈ (List.range N1).map r := List.mem_map.mpr ⟨i, List.mem_range.mpr hi, rfl⟩
        exact ⟨r i, ha, by rw [vr_up_in ha]⟩
    have uq : ∀ (a : Nat) (x y : va_E), (a, x) ∈ ws2 → (a, y) ∈ ws2 → x = y := fun a x y hx1 hy1 => by
      obtain ⟨i, hi⟩ := List.getElem?_of_mem hx1
      obtain ⟨j, hj⟩ := List.getElem?_of_mem hy1
      have e := uniq a x y i j hi hj
      subst e
      rw [hi] at hj
      cases hj
      rfl
    have hl0 : ws.length < ws2.length := by rw [← hW]; simp
    have nodup : ∀ (a : Nat) (x y : va_E), (a, x) ∈ ws → (y = aR g 6 N1 (fun i => if i < N1 then some (r i) else none) ∧ a = q) ∨ (∃ i, i < N1 ∧ a = r i) → False := fun a x y hx1 hy1 => by
      obtain ⟨k, hk⟩ := List.getElem?_of_mem hx1
      have hkl : k < ws.length := (List.getElem?_eq_some_iff.mp hk).1
      have hk2 : ws2[k]? = some (a, x) := by rw [← hW, List.append_assoc, List.getElem?_append_left hkl]; exact hk
      rcases hy1 with ⟨-, rfl⟩ | ⟨i, hi, rfl⟩
      · have h9 : ws2[ws.length]? = some (a, aR g 6 N1 (fun i => if i < N1 then some (r i) else none)) := by rw [← hW, List.append_assoc, List.getElem?_append_right (Nat.le_refl _)]; simp
        have := uniq _ _ _ _ _ hk2 h9
        omega
      · have h9 : ws2[ws.length + 1 + i]? = some (r i, aI g M1 (fun _ => 0)) := by
          rw [← hW, List.getElem?_append_right (by simp)]
          have e2 : ws.length + 1 + i - (ws ++ [(q, aR g 6 N1 (fun i => if i < N1 then some (r i) else none))]).length = i := by simp
          rw [e2]
          have ha : r i ∈ (List.range N1).map r := List.mem_map.mpr ⟨i, List.mem_range.mpr hi, rfl⟩
          unfold va_pl
          rw [List.nil_append, List.getElem?_map, List.getElem?_map, List.getElem?_range hi]
          show some (r i, vr_up _ _ _ (r i)) = _
          rw [vr_up_in ha]
        have := uniq _ _ _ _ _ hk2 h9
        omega
    have rq : ∀ i, i < N1 → r i ≠ q := fun i hi e2 => by
      have a1 : (q, aR g 6 N1 (fun i => if i < N1 then some (r i) else none)) ∈ ws2 := (hm2 _).mpr (Or.inr (Or.inl rfl))
      have a2 : (q, aI g M1 (fun _ => 0)) ∈ ws2 := (hm2 _).mpr (Or.inr (Or.inr ⟨i, hi, by rw [e2]⟩))
      have h9 := (Prod.mk.inj (Prod.mk.inj (Sum.inl.inj (uq _ _ _ a1 a2))).2).2
      cases h9
    have hn0 : ∀ a : Nat, (∀ x, (a, x) ∈ ws → False) → h a = none := fun a ha => by
      cases hq : h a with
      | none => rfl
      | some x => exact (ha x ((hmem a x).mp hq)).elim
    refine nx _ _ _ _ _ (h5 q r (hn0 q fun x hx1 => nodup q x _ hx1 (Or.inl ⟨rfl, rfl⟩)) (fun i hi => hn0 _ fun x hx1 => nodup _ x x hx1 (Or.inr ⟨i, hi, rfl⟩)) rq hinj) H1 locs _ _ arr ⟨ws2, hP1, hD1, fun a x => ?_⟩ hS1 (by omega) (by omega) hl
    rw [← List.mem_iff_getElem?, hm2]
    unfold hrows
    by_cases ha : a ∈ (List.range N1).map r
    · rw [if_pos ha]
      obtain ⟨i, hi, rfl⟩ := List.mem_map.mp ha
      have hi := List.mem_range.mp hi
      constructor
      · intro hx1
        cases hx1
        exact Or.inr (Or.inr ⟨i, hi, rfl⟩)
      · intro hx1
        have b1 : (r i, x) ∈ ws2 := (hm2 _).mpr hx1
        have b2 : (r i, aI g M1 (fun _ => 0)) ∈ ws2 := (hm2 _).mpr (Or.inr (Or.inr ⟨i, hi, rfl⟩))
        rw [uq _ _ _ b1 b2]
    · rw [if_neg ha]
      by_cases hq : a = q
      · subst hq
        rw [hup_same]
        constructor
        · intro hx1
          cases hx1
          exact Or.inr (Or.inl rfl)
        · intro hx1
          have b1 : (a, x) ∈ ws2 := (hm2 _).mpr hx1
          have b2 : (a, aR g 6 N1 (fun i => if i < N1 then some (r i) else none)) ∈ ws2 := (hm2 _).mpr (Or.inr (Or.inl rfl))
          rw [uq _ _ _ b1 b2]
      · rw [hup_ne hq, hmem]
        constructor
        · exact Or.inl
        · rintro (hx1 | hx1 | ⟨i, hi, hx1⟩)
          · exact hx1
          · cases hx1
            exact absurd rfl hq
          · cases hx1
            exact absurd (List.mem_map.mpr ⟨i, List.mem_range.mpr hi, rfl⟩) ha
  next => exact H.elim
end SND4
end
section
section SND5
variable {p : Program} {l : Launch} {e : Env} {R : Room} {s : State} {m : MethodId} {args : Array Value} {below : List Frame} {meth : Method} {c : Code} {Q : State → Prop}
variable {g : Gm} {A : Nat → Prop} {cc : ByteArray} {own : String} {nL pc : Nat} {K T N : CT}
/-! switches -/
def SwT (g : Gm) (p : Program) (l : Launch) (e : Env) (R : Room) (s : State) (m : MethodId) (args : Array Value) (below : List Frame) (meth : Method) (c : Code) (A : Nat → Prop) (nL : Nat) (Q : State → Prop) (pc : Nat) (lo : Int) (offs : Array Int) : Nat → List (Int32 × CT) → Prop
  | _, [] => True
  | j, (k, T) :: ts => (k.toInt = lo + (j : Int) ∧ ∃ (off : Int) (tgt : Nat), offs[j]? = some off ∧ (pc : Int) + off = (tgt : Int) ∧ Sd g p l e R s m args below meth c A nL Q T tgt) ∧ SwT g p l e R s m args below meth c A nL Q pc lo offs (j + 1) ts
theorem s_tswL (X : Cx g p s m args meth c A cc own nL) {dflt lo hi : Int} {offs : Array Int} {len tgt : Nat} {D : CT} (d : decode cc pc = .ok (.tableswitch dflt lo hi offs, len)) (ht : (pc : Int) + dflt = (tgt : Int)) (nd : Sd g p l e R s m args below meth c A nL Q D tgt) : ∀ (ts : List (Int32 × CT)) (j : Nat) (x : Int32), SwT g p l e R s m args below meth c A nL Q pc lo offs j ts → hi = lo + ((j + ts.length : Nat) : Int) - 1 → (∀ j', j' < j → x.toInt ≠ lo + (j' : Int)) →
    ∀ (h : Hp) (cb sb : Nat) (ls : LocS) (r : List Value), oSwL x ts D h cb sb ls r → GM g p l e R s m args below meth c A nL Q pc h cb sb ls (.int x :: r)
  | [], j, x, _, hh, hx9, h, cb, sb, ls, r, H => by
    intro HH locs cells slots arr hok hS hc hs hl
    obtain ⟨hx, hb, hml, hown, hts, hK, hlk, hA⟩ := X
    refine lv_tableOut hx hb d ?_ ht (nd _ _ _ _ _ H HH locs cells slots arr hok hS hc hs hl)
    simp only [List.length_nil, Nat.add_zero] at hh
    by_cases h1 : x.toInt < lo
    · exact Or.inl h1
    · refine Or.inr (Int.not_le.mp fun h2 => ?_)
      have h3 := hx9 (x.toInt - lo).toNat (by omega)
      omega
  | (k, T) :: ts, j, x, hw, hh, hx9, h, cb, sb, ls, r, H => by
    obtain ⟨⟨hk, off, tg, ho, htg, nT⟩, hrest⟩ := hw
    by_cases hxk : x = k
    · intro HH locs cells slots arr hok hS hc hs hl
      have H1 := H.1 hxk
      obtain ⟨hx, hb, hml, hown, hts, hK, hlk, hA⟩ := X
      simp only [List.length_cons] at hh
      refine lv_tableIn hx hb d (by rw [hxk, hk]; omega) (by rw [hxk, hk]; omega) (off := off) ?_ htg (nT _ _ _ _ _ H1 HH locs cells slots arr hok hS hc hs hl)
      rw [hxk, hk, show (lo + (j : Int) - lo).toNat = j by omega]
      exact ho
    · refine s_tswL X d ht nd ts (j + 1) x hrest (by rw [hh]; simp only [List.length_cons]; omega) (fun j' hj' => ?_) h cb sb ls r (H.2 hxk)
      by_cases e1 : j' = j
      · subst e1
        exact fun e2 => hxk (Int32.toInt_inj.mp (by rw [hk]; exact e2))
      · exact hx9 j' (by omega)
theorem s_tsw (X : Cx g p s m args meth c A cc own nL) {dflt lo hi : Int} {offs : Array Int} {len tgt : Nat} {D : CT} {ts : List (Int32 × CT)} (d : decode cc pc = .ok (.tableswitch dflt lo hi offs, len)) (ht : (pc : Int) + dflt = (tgt : Int)) (hh : hi = lo + ((0 + ts.length : Nat) : Int) - 1) (hw : SwT g p l e R s m args below meth c A nL Q pc lo offs 0 ts) (nd : Sd g p l e R s m args below meth c A nL Q D tgt) : Sd g p l e R s m args below meth c A nL Q (oSw ts D) pc := by
  intro h cb sb ls st H
  unfold oSw at H
  split at H
  next x r => exact s_tswL X d ht nd ts 0 x hw hh (fun j' hj' => absurd hj' (Nat.not_lt_zero j')) h cb sb ls r H
  next => exact H.elim
def LkT (g : Gm) (p : Program) (l : Launch) (e : Env) (R : Room) (s : State) (m : MethodId) (args : Array Value) (below : List Frame) (meth : Method) (c : Code) (A : Nat → Prop) (nL : Nat) (Q : State → Prop) (pc : Nat) : List (Int × Int) → List (Int32 × CT) → Prop
  | [], [] => True
  | (a, o) :: ps, (k, T) :: ts => (k.toInt = a ∧ ∃ tgt : Nat, (pc : Int) + o = (tgt : Int) ∧ Sd g p l e R s m args below meth c A nL Q T tgt) ∧ LkT g p l e R s m args below meth c A nL Q pc ps ts
  | _, _ => False
theorem s_lswL {dflt : Int} {tgt : Nat} {D : CT} (ht : (pc : Int) + dflt = (tgt : Int)) (nd : Sd g p l e R s m args below meth c A nL Q D tgt) : ∀ (ps : List (Int × Int)) (ts : List (Int32 × CT)) (x : Int32), LkT g p l e R s m args below meth c A nL Q pc ps ts →
    ∀ (h : Hp) (cb sb : Nat) (ls : LocS) (r : List Value), oSwL x ts D h cb sb ls r → ∃ (off : Int) (tg : Nat), Op.lookupswitch.offset ps dflt x.toInt = off ∧ (pc : Int) + off = (tg : Int) ∧ GM g p l e R s m args below meth c A nL Q tg h cb sb ls r
  | [], [], x, _, h, cb, sb, ls, r, H => ⟨dflt, tgt, rfl, ht, nd _ _ _ _ _ H⟩
  | (a, o) :: ps, (k, T) :: ts, x, hw, h, cb, sb, ls, r, H => by
    obtain ⟨⟨hk, tg, htg, nT⟩, hrest⟩ := hw
    by_cases hxk : x = k
    · refine ⟨o, tg, ?_, htg, nT _ _ _ _ _ (H.1 hxk)⟩
      rw [Op.lookupswitch.offset_cons, if_pos]
      rw [hxk, hk]
    · obtain ⟨off, t2, h1, h2, h3⟩ := s_lswL ht nd ps ts x hrest h cb sb ls r (H.2 hxk)
      exact ⟨off, t2, (lv_osw hxk hk).trans h1, h2, h3⟩
  | [], _ :: _, _, hw, _, _, _, _, _, _ => hw.elim
  | _ :: _, [], _, hw, _, _, _, _, _, _ => hw.elim
theorem s_lsw (X : Cx g p s m args meth c A cc own nL) {dflt : Int} {ps : Array (Int × Int)} {len tgt : Nat} {D : CT} {ts : List (Int32 × CT)} (d : decode cc pc = .ok (.lookupswitch dflt ps, len)) (hp : (ps.toList.zip (ps.toList.drop 1)).all (fun (a, next) => a.1 < next.1) = true) (ht : (pc : Int) + dflt = (tgt : Int)) (hw : LkT g p l e R s m args below meth c A nL Q pc ps.toList ts) (nd : Sd g p l e R s m args below meth c A nL Q D tgt) : Sd g p l e R s m args below meth c A nL Q (oSw ts D) pc := by
  intro h cb sb ls st H
  unfold oSw at H
  split at H
  next x r =>
    obtain ⟨off, tg, h1, h2, h3⟩ := s_lswL ht nd _ ts x hw h cb sb ls r H
    intro HH locs cells slots arr hok hS hc hs hl
    exact lv_lookup X.1 X.2.1 d hp h1 h2 (h3 HH locs cells slots arr hok hS hc hs hl)
  next => exact H.elim
/-! calls -/
theorem after_call {H : Heap} {locs : List Loc} {cells slots mc ms : Nat} {arr : Array Slot} {st0 rest : List Value} {h : Hp} {Kc : PT} {a : Array Value} (hr : va_Run p l e R s m args below meth c H locs cells slots mc ms (F0 m pc arr st0) rest (QcR g h H.size Kc a) (Adom h H.size)) (hok : Hok g A H h) (hS : va_S A s.heap H locs) (hA : ∀ q, s.heap.size ≤ q → A q)
    (kk : ∀ (r : Option Value) (h' : Hp) (H1 : Heap) (locs1 : List Loc), Kc r h' → Hok g A H1 h' → va_S A s.heap H1 locs1 → W p l e R s m args below meth c H1 locs1 (cells + mc) (slots + ms) Q (F0 m (pc + 3) arr (r.toList ++ rest))) : W p l e R s m args below meth c H locs cells slots Q (F0 m pc arr st0) := by
  intro T hT X
  obtain ⟨v, st₀, t, T', L, h0, X', hL, e1, e2, ⟨⟨r, h', hv, hp, hb⟩, hz, hk⟩, st⟩ := hr T hT X
  cases hv
  rw [h0] at hz hk
  have hAd : ∀ q, Adom h H.size q → A q := fun q hq => by
    rcases hq with h1 | h1
    · exact hok.dom h1
    · exact hA q (Nat.le_trans hS.1 h1)
  obtain ⟨t2, a1, b1⟩ := kk v h' T'.heap (locs ++ L) hp (by rw [e1]; exact hb.weaken hAd)
    ⟨Nat.le_trans hS.1 (by rw [e1]; exact hz), fun q h1 h2 => by rw [e1, hk q (Nat.lt_of_lt_of_le h1 hS.1) (fun z => h2 (hAd q z))]; exact hS.2.1 q h1 h2, fun q hq => by
      rcases List.mem_append.mp hq with h | h
      · exact hS.2.2 q h
      · exact hAd _ (hL q h)⟩ T' rfl X'
  exact ⟨t2, st t2 a1, b1⟩
def CodeIn (d : MD) : Prop := Cond.code d.1 d.2.1 d.2.2.1 d.2.2.2.1 ∈ UW
theorem gi_md {d : MD} (h : CodeIn d) : GoodIn UW (mdW d) := fun w hw => by
  rcases List.mem_cons.mp hw with rfl | hw
  · exact ⟨h, good_of_word (List.mem_filter.mp h).2⟩
  · exact UW_good (fun _ h => h) w hw
theorem gi_app {d : MD} {xs : List Cond} (h : CodeIn d) (hx : ∀ w ∈ xs, w ∈ UW) : GoodIn UW (xs ++ mdW d) := fun w hw => by
  rcases List.mem_append.mp hw with h1 | h1
  · exact ⟨hx w h1, good_of_word (List.mem_filter.mp (hx w h1)).2⟩
  · exact gi_md h w h1
theorem chkS_len {n : Nat} {st : List Value} (h : chkS n st = true) : n ≤ st.length ∧ st.length ≤ n + 4 := by
  unfold chkS at h
  rw [Bool.and_eq_true] at h
  exact ⟨Nat.le_of_ble_eq_true h.1, Nat.le_of_ble_eq_true h.2⟩
theorem pre_S {H : Heap} {h : Hp} {av : List Value} (hK : KK g s) (hok : Hok g A H h) : PreS s H (PcR g av h H.size) av := ⟨PcR_blind, fun U hU hW => ⟨rfl, by rw [hU], hK.warm hW, by rw [hU]; exact hok.weaken (fun _ _ => trivial)⟩⟩
abbrev YOk (d : MD) (n : Nat) : Prop := d.1.cls ≠ "java/lang/invoke/MethodHandle" ∧ d.1.cls ≠ "java/lang/invoke/VarHandle" ∧ (parseMethodDescriptor d.1.desc).map (fun d => d.parameters.length) = some n
abbrev ROk (R : Room) (d : MD) : Prop := d.2.2.2.2.1 + 1 ≤ R.frames ∧ 8 + (d.2.2.1 + 11) + d.2.2.2.2.2 ≤ R.locals
theorem s_callS (X : Cx g p s m args meth c A cc own nL) {d : MD} {n index : Nat} (dd : decode cc pc = .ok (.invokestatic index, 3)) (hlnk : Cond.methodLink own index d.1 ∈ UW) (hst : Cond.static d.1 ∈ UW) (hin : Cond.initialized d.1.cls ∈ UW) (hcd : CodeIn d) (hy : YOk d n) (hR : ROk R d) (nx : Sd g p l e R s m args below meth c A nL Q K (pc + 3)) : Sd g p l e R s m args below meth c A nL Q (oCall l g d n K) pc := by
  intro h cb sb ls st H HH locs cells slots arr hok hS hc hs hl
  obtain ⟨hx, hb, hml, hown, hts, hK, hlk, hA⟩ := X
  obtain ⟨hck, mc, ms, h1, h2, hrun⟩ := H
  obtain ⟨k1, k2⟩ := chkS_len hck
  refine after_call (va_runS (As := (st.take n).reverse) (rest := st.drop n) ⟨hx, hb, hml, hown, hts⟩ (hrun HH.size) ⟨callB_of n hts (gi_md hcd) rfl rfl rfl (hts _ hin) (hts _ hlnk) hy hR, hts _ hst⟩ (pre_S hK hok) rfl (by simp; omega) hl.2.1 (by simp) (lv_room (cat_sum _ (by simp; omega))) dd ⟨by omega, by omega⟩) hok hS hA (fun r h' H1 locs1 hk1 hok1 hS1 => ?_)
  exact nx _ _ _ _ _ hk1 H1 locs1 _ _ arr hok1 hS1 (by omega) (by omega) hl
theorem split_recv {n b : Nat} {st : List Value} (h : (st.take n).getLast? = some (.ref b)) : ∃ As : List Value, (st.take n).reverse = .ref b :: As ∧ st = As.reverse ++ .ref b :: st.drop n := by
  refine ⟨(st.take n).dropLast.reverse, ?_, ?_⟩
  · have hne : st.take n ≠ [] := fun e => by rw [e] at h; cases h
    have h2 : st.take n = (st.take n).dropLast ++ [.ref b] := by
      rw [List.getLast?_eq_some_getLast hne] at h
      rw [← Option.some.inj h]
      exact (List.dropLast_concat_getLast hne).symm
    conv => lhs; rw [h2]
    simp
  · have hne : st.take n ≠ [] := fun e => by rw [e] at h; cases h
    have h2 : st.take n = (st.take n).dropLast ++ [.ref b] := by
      rw [List.getLast?_eq_some_getLast hne] at h
      rw [← Option.some.inj h]
      exact (List.dropLast_concat_getLast hne).symm
    rw [List.reverse_reverse]
    conv => lhs; rw [← List.take_append_drop n st, h2]
    simp
theorem s_callI (X : Cx g p s m args meth c A cc own nL) {d : MD} {n index : Nat} (hret : d.2.2.2.1 = none) (hnm : d.1.name = "<init>") (dd : decode cc pc = .ok (.invokespecial index, 3)) (hlnk : Cond.methodLink own index d.1 ∈ UW) (hinst : Cond.instanceMethod d.1 ∈ UW) (hin : Cond.initialized d.1.cls ∈ UW) (hcd : CodeIn d) (hy : YOk d n) (hR : ROk R d) (nx : Sd g p l e R s m args below meth c A nL Q K (pc + 3)) : Sd g p l e R s m args below meth c A nL Q (fun h cb sb ls st => (∃ b, (st.take (n + 1)).getLast? = some (.ref b)) ∧ oCall l g d (n + 1) K h cb sb ls st) pc := by
  intro h cb sb ls st H HH locs cells slots arr hok hS hc hs hl
  obtain ⟨hx, hb, hml, hown, hts, hK, hlk, hA⟩ := X
  obtain ⟨⟨b, hbb⟩, hck, mc, ms, h1, h2, hrun⟩ := H
  obtain ⟨k1, k2⟩ := chkS_len hck
  obtain ⟨As, ea, es⟩ := split_recv hbb
  have hlen : As.length = n := by have := congrArg List.length ea; simp at this; omega
  obtain ⟨y, by_, mL, rt, fr, lo⟩ := d
  dsimp only at hret
  subst hret
  rw [ea] at hrun
  refine after_call (va_runI (As := As) (b := b) (rest := st.drop (n + 1)) ⟨hx, hb, hml, hown, hts⟩ (hrun HH.size) ⟨callB_of n hts (gi_md hcd) rfl rfl rfl (hts _ hin) (hts _ hlnk) hy hR, hnm, hts _ hinst⟩ (pre_S hK hok) rfl hlen hl.2.1 es (lv_room (cat_sum _ (by simp; omega))) dd ⟨by omega, by omega⟩) hok hS hA (fun r h' H1 locs1 hk1 hok1 hS1 => ?_)
  exact nx _ _ _ _ _ hk1 H1 locs1 _ _ arr hok1 hS1 (by omega) (by omega) hl
theorem s_callIN (X : Cx g p s m args meth c A cc own nL) {d : MD} {n index : Nat} {host : String} (hret : d.2.2.2.1 = none) (hnm : d.1.name = "<init>") (dd : decode cc pc = .ok (.invokespecial index, 3)) (hlnk : va_Nw (.methodLinkNest own index d.1 host) s) (hinst : Cond.instanceMethod d.1 ∈ UW) (hin : Cond.initialized d.1.cls ∈ UW) (hcd : CodeIn d) (hy : YOk d n) (hR : ROk R d) (nx : Sd g p l e R s m args below meth c A nL Q K (pc + 3)) : Sd g p l e R s m args below meth c A nL Q (fun h cb sb ls st => (∃ b, (st.take (n + 1)).getLast? = some (.ref b)) ∧ oCall l g d (n + 1) K h cb sb ls st) pc := by
  intro h cb sb ls st H HH locs cells slots arr hok hS hc hs hl
  obtain ⟨hx, hb, hml, hown, hts, hK, hlk, hA⟩ := X
  obtain ⟨⟨b, hbb⟩, hck, mc, ms, h1, h2, hrun⟩ := H
  obtain ⟨k1, k2⟩ := chkS_len hck
  obtain ⟨As, ea, es⟩ := split_recv hbb
  have hlen : As.length = n := by have := congrArg List.length ea; simp at this; omega
  obtain ⟨y, by_, mL, rt, fr, lo⟩ := d
  dsimp only at hret
  subst hret
  rw [ea] at hrun
  refine after_call (va_runIN (As := As) (b := b) (rest := st.drop (n + 1)) ⟨hx, hb, hml, hown, hts⟩ (hrun HH.size) ⟨va_cnB n hts (gi_md hcd) rfl rfl rfl hlnk (hts _ hin) hy hR, hnm, hts _ hinst⟩ (pre_S hK hok) rfl hlen hl.2.1 es (lv_room (cat_sum _ (by simp; omega))) dd ⟨by omega, by omega⟩) hok hS hA (fun r h' H1 locs1 hk1 hok1 hS1 => ?_)
  exact nx _ _ _ _ _ hk1 H1 locs1 _ _ arr hok1 hS1 (by omega) (by omega) hl
/-- an object of class ci, called as the pool's entry says, goes to the method d -/
def VOk (R : Room) (s : State) (args : Array Value) (own : String) (index n ci : Nat) (d : MD) : Prop := ∃ (C : String) (T1 : u_T) (N1 : Nat), vwCl[ci]? = some (C, T1, N1) ∧
  ((∀ mc ms : Nat, CallW R s args own C index d.1 d.2.1 d.2.2.1 d.2.2.2.1 (mdW d) (mdR d mc ms) mc ms n) ∨ ∃ (owner : String) (x : MethodName), ∀ mc ms : Nat, va_CU R s args own C owner index x d.1 d.2.1 d.2.2.1 d.2.2.2.1 (mdW d) (mdR d mc ms) mc ms n)
theorem s_callV (X : Cx g p s m args meth c A cc own nL) {tab : List (Nat × MD)} {n index : Nat} (dd : decode cc pc = .ok (.invokevirtual index, 3)) (hv : ∀ (ci : Nat) (d : MD), (ci, d) ∈ tab → VOk R s args own index n ci d) (nx : Sd g p l e R s m args below meth c A nL Q K (pc + 3)) : Sd g p l e R s m args below meth c A nL Q (oCallV l g tab (n + 1) K) pc := by
  intro h cb sb ls st H HH locs cells slots arr hok hS hc hs hl
  obtain ⟨hx, hb, hml, hown, hts, hK, hlk, hA⟩ := X
  obtain ⟨hck, b, ci, fs, d, hbb, hcell, htab, mc, ms, h1, h2, hrun⟩ := H
  obtain ⟨k1, k2⟩ := chkS_len hck
  obtain ⟨As, ea, es⟩ := split_recv hbb
  have hlen : As.length = n := by have := congrArg List.length ea; simp at this; omega
  rw [ea] at hrun
  obtain ⟨C, T1, N1, g1, g2⟩ := hv ci d htab
  obtain ⟨ws, hP, hD, hr⟩ := id hok
  obtain ⟨kk, hkk⟩ := (hr b _).mp hcell
  have hrc := va_recv hK.1 hP g1 hkk
  have hpre : PreV s HH C b (PcR g (.ref b :: As) h HH.size) As := ⟨PcR_blind, hrc, (pre_S hK hok).2⟩
  rcases g2 with g2 | ⟨owner, x, g2⟩
  · refine after_call (va_runV (As := As) (b := b) (rest := st.drop (n + 1)) ⟨hx, hb, hml, hown, hts⟩ (hrun HH.size) (g2 mc ms) hpre rfl hlen hl.2.1 es (lv_room (cat_sum _ (by simp; omega))) dd ⟨by omega, by omega⟩) hok hS hA (fun r h' H1 locs1 hk1 hok1 hS1 => ?_)
    exact nx _ _ _ _ _ hk1 H1 locs1 _ _ arr hok1 hS1 (by omega) (by omega) hl
  · refine after_call (va_runU (As := As) (b := b) (rest := st.drop (n + 1)) ⟨hx, hb, hml, hown, hts⟩ (hrun HH.size) (g2 mc ms) hpre rfl hlen hl.2.1 es (lv_room (cat_sum _ (by simp; omega))) dd ⟨by omega, by omega⟩) hok hS hA (fun r h' H1 locs1 hk1 hok1 hS1 => ?_)
    exact nx _ _ _ _ _ hk1 H1 locs1 _ _ arr hok1 hS1 (by omega) (by omega) hl
theorem mem4 {α : Type} {P : α → Prop} {a b c d : α} (ha : P a) (hb : P b) (hc : P c) (hd : P d) : ∀ w ∈ [a, b, c, d], P w := by
  intro w hw
  simp only [List.mem_cons, List.not_mem_nil, or_false] at hw
  rcases hw with rfl | rfl | rfl | rfl <;> assumption
theorem mem5 {α : Type} {P : α → Prop} {a b c d e : α} (ha : P a) (hb : P b) (hc : P c) (hd : P d) (he : P e) : ∀ w ∈ [a, b, c, d, e], P w := by
  intro w hw
  simp only [List.mem_cons, List.not_mem_nil, or_false] at hw
  rcases hw with rfl | rfl | rfl | rfl | rfl <;> assumption
theorem mem6 {α : Type} {P : α → Prop} {a b c d e f : α} (ha : P a) (hb : P b) (hc : P c) (hd : P d) (he : P e) (hf : P f) : ∀ w ∈ [a, b, c, d, e, f], P w := by
  intro w hw
  simp only [List.mem_cons, List.not_mem_nil, or_false] at hw
  rcases hw with rfl | rfl | rfl | rfl | rfl | rfl <;> assumption
theorem vok_V (X : Cx g p s m args meth c A cc own nL) {d : MD} {index n ci : Nat} {T1 : u_T} {N1 : Nat} (hcl : vwCl[ci]? = some (d.1.cls, T1, N1)) (hlnk : Cond.methodLink own index d.1 ∈ UW) (hinst : Cond.instanceMethod d.1 ∈ UW) (hsel : Cond.selects d.1.cls d.1 d.1 ∈ UW) (hin : Cond.initialized d.1.cls ∈ UW) (hcd : CodeIn d) (hy : YOk d n) (hR : ROk R d) : VOk R s args own index n ci d :=
  ⟨_, _, _, hcl, Or.inl fun mc ms => cwV n X.2.2.2.2.1 (gi_app hcd (mem4 hlnk hinst hsel hin)) rfl rfl rfl ⟨rfl, hy⟩ hR⟩
theorem vok_U (X : Cx g p s m args meth c A cc own nL) {d : MD} {index n ci : Nat} {C owner : String} {T1 : u_T} {N1 : Nat} {x : MethodName} (hcl : vwCl[ci]? = some (C, T1, N1)) (hyx : d.1 = ⟨owner, x.name, x.desc⟩) (hlnk : Cond.methodLink own index x ∈ UW) (hsame : Cond.sameMethod x.cls owner x.name x.desc ∈ UW) (hsel : Cond.selects C x d.1 ∈ UW) (hinst : Cond.instanceMethod d.1 ∈ UW) (hin : Cond.initialized d.1.cls ∈ UW) (hcd : CodeIn d) (hy : owner ≠ "java/lang/invoke/MethodHandle" ∧ owner ≠ "java/lang/invoke/VarHandle" ∧ (parseMethodDescriptor x.desc).map (fun d => d.parameters.length) = some n) (hR : ROk R d) : VOk R s args own index n ci d :=
  ⟨_, _, _, hcl, Or.inr ⟨owner, x, fun mc ms => va_cwU n X.2.2.2.2.1 (gi_app hcd (mem5 hlnk hsame hsel hinst hin)) rfl rfl rfl hyx hy hR⟩⟩
theorem vok_O (X : Cx g p s m args meth c A cc own nL) {d : MD} {index n ci : Nat} {C owner : String} {T1 : u_T} {N1 : Nat} {x : MethodName} {b0 : ByteArray} {m0 : Nat} {r0 : Option FieldType} (hcl : vwCl[ci]? = some (C, T1, N1)) (h0 : Cond.code ⟨owner, x.name, x.desc⟩ b0 m0 r0 ∈ UW) (hlnk : Cond.methodLink own index x ∈ UW) (hsame : Cond.sameMethod x.cls owner x.name x.desc ∈ UW) (hio : Cond.instanceMethod ⟨owner, x.name, x.desc⟩ ∈ UW) (hsel : Cond.selects C x d.1 ∈ UW) (hinst : Cond.instanceMethod d.1 ∈ UW) (hin : Cond.initialized d.1.cls ∈ UW) (hcd : CodeIn d) (hy : owner ≠ "java/lang/invoke/MethodHandle" ∧ owner ≠ "java/lang/invoke/VarHandle" ∧ (parseMethodDescriptor x.desc).map (fun d => d.parameters.length) = some n) (hR : ROk R d) : VOk R s args own index n ci d :=
  ⟨_, _, _, hcl, Or.inr ⟨owner, x, fun mc ms => va_cwO n X.2.2.2.2.1 (gi_app hcd (mem6 hlnk hsame hio hsel hinst hin)) rfl rfl rfl h0 hy hR⟩⟩
/-- a superclass's body, called by name -/
theorem s_callSU (X : Cx g p s m args meth c A cc own nL) {d : MD} {cs : List Nat} {n index : Nat} (dd : decode cc pc = .ok (.invokespecial index, 3)) (hlnk : Cond.methodLink own index d.1 ∈ UW) (hsame : Cond.sameMethod d.1.cls d.1.cls d.1.name d.1.desc ∈ UW) (hsup : Cond.superclass own d.1.cls ∈ UW) (hinst : Cond.instanceMethod d.1 ∈ UW) (hin : Cond.initialized d.1.cls ∈ UW) (hcd : CodeIn d) (hy : d.1.name ≠ "<init>" ∧ (parseMethodDescriptor d.1.desc).map (fun d => d.parameters.length) = some n) (hR : ROk R d) (hcs : ∀ ci ∈ cs, ∃ r : vw_C, vwCl[ci]? = some r) (nx : Sd g p l e R s m args below meth c A nL Q K (pc + 3)) :
    Sd g p l e R s m args below meth c A nL Q (oCallV l g (cs.map fun ci => (ci, d)) (n + 1) K) pc := by
  intro h cb sb ls st H HH locs cells slots arr hok hS hc hs hl
  obtain ⟨hx, hb, hml, hown, hts, hK, hlk, hA⟩ := X
  obtain ⟨hck, b, ci, fs, d2, hbb, hcell, htab, mc, ms, h1, h2, hrun⟩ := H
  obtain ⟨ci2, hci, e2⟩ := List.mem_map.mp htab
  cases e2
  obtain ⟨k1, k2⟩ := chkS_len hck
  obtain ⟨As, ea, es⟩ := split_recv hbb
  have hlen : As.length = n := by have := congrArg List.length ea; simp at this; omega
  rw [ea] at hrun
  obtain ⟨r0, g1⟩ := hcs ci hci
  obtain ⟨ws, hP, hD, hr⟩ := id hok
  obtain ⟨kk, hkk⟩ := (hr b _).mp hcell
  have hrc := va_recv hK.1 hP g1 hkk
  have hpre : PreV s HH r0.1 b (PcR g (.ref b :: As) h HH.size) As := ⟨PcR_blind, hrc, (pre_S hK hok).2⟩
  refine after_call (va_runSU (As := As) (b := b) (rest := st.drop (n + 1)) (hK.1.1 ci _ g1).2 ⟨hx, hb, hml, hown, hts⟩ (hrun HH.size) (va_cwSU n hts (gi_app hcd (mem5 hlnk hsame hsup hinst hin)) rfl rfl rfl hy hR) hpre rfl hlen hl.2.1 es (lv_room (cat_sum _ (by simp; omega))) dd ⟨by omega, by omega⟩) hok hS hA (fun r h' H1 locs1 hk1 hok1 hS1 => ?_)
  exact nx _ _ _ _ _ hk1 H1 locs1 _ _ arr hok1 hS1 (by omega) (by omega) hl
end SND5
end
section
section SND6
variable {p : Program} {l : Launch} {e : Env} {R : Room} {s : State} {m : MethodId} {args : Array Value} {below : List Frame} {meth : Method} {c : Code}
variable {g : Gm} {A : Nat → Prop} {cc : ByteArray} {own : String} {nL pc : Nat} {K T N : CT} {h0 : Hp} {P : PT}
theorem s_iret (X : Cx g p s m args meth c (Adom h0 s.heap.size) cc own nL) (hr : meth.sig.returnType = some .int) (d : decode cc pc = .ok (.ireturn, 1)) : Sd g p l e R s m args below meth c (Adom h0 s.heap.size) nL (MQ below (QcR g h0 s.heap.size P) args s R.cells R.slots (Adom h0 s.heap.size)) (oIRet P) pc := by
  intro h cb sb ls st H HH locs cells slots arr hok hS hc hs hl
  obtain ⟨hx, hb, hml, hown, hts, hK, hlk, hA⟩ := X
  unfold oIRet at H
  split at H
  next r =>
    refine W.widen (k := R.cells) (n := R.slots) (by omega) (by omega) ?_
    exact W.iret hx hb hr (fun t ht hW => ⟨⟨_, h, rfl, H, by rw [ht]; exact hok⟩, hS.F ht⟩) hS.2.2 d (hlocks := hlk)
  next => exact H.elim
theorem s_zret (X : Cx g p s m args meth c (Adom h0 s.heap.size) cc own nL) (hr : meth.sig.returnType = some .boolean) (d : decode cc pc = .ok (.ireturn, 1)) : Sd g p l e R s m args below meth c (Adom h0 s.heap.size) nL (MQ below (QcR g h0 s.heap.size P) args s R.cells R.slots (Adom h0 s.heap.size)) (oZRet P) pc := by
  intro h cb sb ls st H HH locs cells slots arr hok hS hc hs hl
  obtain ⟨hx, hb, hml, hown, hts, hK, hlk, hA⟩ := X
  unfold oZRet at H
  split at H
  next r =>
    refine W.widen (k := R.cells) (n := R.slots) (by omega) (by omega) ?_
    exact W.zret hx hb hr (by rcases H.1 with rfl | rfl <;> rfl) (fun t ht hW => ⟨⟨_, h, rfl, H.2, by rw [ht]; exact hok⟩, hS.F ht⟩) hS.2.2 d (hlocks := hlk)
  next => exact H.elim
theorem s_jret (X : Cx g p s m args meth c (Adom h0 s.heap.size) cc own nL) (hr : meth.sig.returnType = some .long) (d : decode cc pc = .ok (.lreturn, 1)) : Sd g p l e R s m args below meth c (Adom h0 s.heap.size) nL (MQ below (QcR g h0 s.heap.size P) args s R.cells R.slots (Adom h0 s.heap.size)) (oJRet P) pc := by
  intro h cb sb ls st H HH locs cells slots arr hok hS hc hs hl
  obtain ⟨hx, hb, hml, hown, hts, hK, hlk, hA⟩ := X
  unfold oJRet at H
  split at H
  next r =>
    refine W.widen (k := R.cells) (n := R.slots) (by omega) (by omega) ?_
    exact W.lret hx hb hr (fun t ht hW => ⟨⟨_, h, rfl, H, by rw [ht]; exact hok⟩, hS.F ht⟩) hS.2.2 d (hlocks := hlk)
  next => exact H.elim
theorem s_aret (X : Cx g p s m args meth c (Adom h0 s.heap.size) cc own nL) {rt : FieldType} (hr : meth.sig.returnType = some rt) (hrt : (∃ n, rt = .object n) ∨ ∃ t, rt = .array t) (d : decode cc pc = .ok (.areturn, 1)) : Sd g p l e R s m args below meth c (Adom h0 s.heap.size) nL (MQ below (QcR g h0 s.heap.size P) args s R.cells R.slots (Adom h0 s.heap.size)) (oARet P) pc := by
  intro h cb sb ls st H HH locs cells slots arr hok hS hc hs hl
  obtain ⟨hx, hb, hml, hown, hts, hK, hlk, hA⟩ := X
  unfold oARet at H
  split at H
  next r =>
    refine W.widen (k := R.cells) (n := R.slots) (by omega) (by omega) ?_
    exact W.aret hx hb hr hrt (Or.inr ⟨_, rfl⟩) (fun t ht hW => ⟨⟨_, h, rfl, H, by rw [ht]; exact hok⟩, hS.F ht⟩) hS.2.2 d (hlocks := hlk)
  next => exact H.elim
theorem s_vret (X : Cx g p s m args meth c (Adom h0 s.heap.size) cc own nL) (hr : meth.sig.returnType = none) (d : decode cc pc = .ok (.return_, 1)) : Sd g p l e R s m args below meth c (Adom h0 s.heap.size) nL (MQ below (QcR g h0 s.heap.size P) args s R.cells R.slots (Adom h0 s.heap.size)) (oVRet P) pc := by
  intro h cb sb ls st H HH locs cells slots arr hok hS hc hs hl
  obtain ⟨hx, hb, hml, hown, hts, hK, hlk, hA⟩ := X
  unfold oVRet at H
  split at H
  next =>
    refine W.widen (k := R.cells) (n := R.slots) (by omega) (by omega) ?_
    exact W.vret hx hb hr (fun t ht hW => ⟨⟨_, h, rfl, H, by rw [ht]; exact hok⟩, hS.F ht⟩) hS.2.2 d (hlocks := hlk)
  next => exact H.elim
def ls0 (av : List Value) (nL : Nat) : LocS := av.map some ++ List.replicate (nL - av.length) none
theorem lv_args_cat : ∀ (vs : List Value) (k i : Nat) (v : Value), (∀ v ∈ vs, v.category = 1) → vs[i]? = some v → (k + i, v) ∈ lv_args k vs
  | [], k, i, v, _, h => by simp at h
  | w :: vs, k, 0, v, hc, h => by
    simp only [List.getElem?_cons_zero, Option.some.injEq] at h
    subst h
    exact List.mem_cons_self
  | w :: vs, k, i + 1, v, hc, h => by
    have h1 := hc w List.mem_cons_self
    unfold lv_args
    refine List.mem_cons_of_mem _ ?_
    rw [if_neg (by omega)]
    have := lv_args_cat vs (k + 1) i v (fun x hx => hc x (List.mem_cons_of_mem _ hx)) (by simpa using h)
    rw [show k + (i + 1) = k + 1 + i by omega]
    exact this
theorem sl_len : ∀ vs : List Value, (∀ v ∈ vs, v.category = 1) → (lg_sl vs).length = vs.length
  | [], _ => rfl
  | w :: vs, hc => by
    have h1 := hc w List.mem_cons_self
    have ih := sl_len vs (fun x hx => hc x (List.mem_cons_of_mem _ hx))
    unfold lg_sl at ih ⊢
    rw [List.flatMap_cons, List.length_append, ih, if_neg (by omega)]
    simp
    omega
/-- a method out of its body's walk -/
theorem Run.of {d : MD} {av : List Value} {h : Hp} {mc ms : Nat} (hy : plainName d.1.cls = true) (hcat : ∀ v ∈ av, v.category = 1) (hlen : av.length ≤ d.2.2.1)
    (body : ∀ (p : Program) (e : Env) (s : State) (m : MethodId) (args : Array Value) (below : List Frame) (meth : Method) (c : Code), Cx g p s m args meth c (Adom h s.heap.size) d.2.1 d.1.cls d.2.2.1 → meth.sig.returnType = d.2.2.2.1 → meth.name = d.1.name →
      GM g p l e (mdR d mc ms) s m args below meth c (Adom h s.heap.size) d.2.2.1 (MQ below (QcR g h s.heap.size P) args s mc ms (Adom h s.heap.size)) 0 h mc ms (ls0 av d.2.2.1) []) : Run l g d av h mc ms P := by
  intro sz
  refine Met.ofW (cc := d.2.1) (maxL := d.2.2.1) (ret := d.2.2.2.1) hy rfl ?_
  intro p e s m args below meth c s₁ B hml hv
  obtain ⟨rfl, rfl, hK, hok⟩ := hv
  have hX : Cx g p s m av.toArray meth c (Adom h s.heap.size) d.2.1 d.1.cls d.2.2.1 := ⟨B.exec, B.bytes, hml, findClass_of_methodNamed B.named, fun w hw => atoms_spec (ws := mdW d) B.pre w (List.mem_cons_of_mem _ hw), hK, B.notSynchronized, fun q hq => Or.inr hq⟩
  have hl := lv_entry av (n := d.2.2.1) (by rw [sl_len av hcat]; exact hlen)
  rw [lg_entry_eq]
  refine body p e s m av.toArray below meth c hX B.returns (name_of_methodNamed B.named B.method).1 s.heap [] 0 0 _ (hok.self _) va_S.rf (by show 0 + mc ≤ mc; omega) (by show 0 + ms ≤ ms; omega) ⟨?_, hl.1, hl.2.1, fun i v hi => ?_⟩
  · unfold ls0
    simp
    omega
  · unfold ls0 at hi
    by_cases hi2 : i < av.length
    · rw [List.getElem?_append_left (by simpa using hi2), List.getElem?_map] at hi
      cases hq : av[i]? with
      | none => rw [hq] at hi; cases hi
      | some w =>
        rw [hq] at hi
        cases hi
        have := lv_args_cat av 0 i v hcat hq
        rw [Nat.zero_add] at this
        exact ⟨hl.2.2 _ this, hcat v (List.mem_of_getElem? hq)⟩
    · rw [List.getElem?_append_right (by simpa using hi2)] at hi
      have := List.mem_of_getElem? hi
      simp at this
end SND6
end
